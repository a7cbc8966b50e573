theorem d_M_brought_58 : decode b_M_brought 58 = .ok (.lload_n 2, 1) := by decide +kernel
theorem d_M_brought_59 : decode b_M_brought 59 = .ok (.lstore_n 2, 1) := by decide +kernel
theorem d_M_brought_60 : decode b_M_brought 60 = .ok (.iinc 4 1, 3) := by decide +kernel
theorem d_M_brought_63 : decode b_M_brought 63 = .ok (.goto (-58), 3) := by decide +kernel
theorem d_M_brought_66 : decode b_M_brought 66 = .ok (.lload_n 2, 1) := by decide +kernel
theorem d_M_brought_67 : decode b_M_brought 67 = .ok (.lreturn, 1) := by decide +kernel
theorem d_M_linesHold_0 : decode b_M_linesHold 0 = .ok (.iconst 0, 1) := by decide +kernel
theorem d_M_linesHold_1 : decode b_M_linesHold 1 = .ok (.istore_n 1, 1) := by decide +kernel
theorem d_M_linesHold_2 : decode b_M_linesHold 2 = .ok (.iload_n 1, 1) := by decide +kernel
theorem d_M_linesHold_3 : decode b_M_linesHold 3 = .ok (.aload_n 0, 1) := by decide +kernel
theorem d_M_linesHold_4 : decode b_M_linesHold 4 = .ok (.getfield 86, 3) := by decide +kernel
theorem d_M_linesHold_7 : decode b_M_linesHold 7 = .ok (.if_icmp .ge 52, 3) := by decide +kernel
theorem d_M_linesHold_10 : decode b_M_linesHold 10 = .ok (.aload_n 0, 1) := by decide +kernel
theorem d_M_linesHold_11 : decode b_M_linesHold 11 = .ok (.iload_n 1, 1) := by decide +kernel
theorem d_M_linesHold_12 : decode b_M_linesHold 12 = .ok (.invokevirtual 134, 3) := by decide +kernel
theorem d_M_linesHold_15 : decode b_M_linesHold 15 = .ok (.lstore_n 2, 1) := by decide +kernel
theorem d_M_linesHold_16 : decode b_M_linesHold 16 = .ok (.lload_n 2, 1) := by decide +kernel
theorem d_M_linesHold_17 : decode b_M_linesHold 17 = .ok (.aload_n 0, 1) := by decide +kernel
theorem d_M_linesHold_18 : decode b_M_linesHold 18 = .ok (.getfield 19, 3) := by decide +kernel
theorem d_M_linesHold_21 : decode b_M_linesHold 21 = .ok (.iload_n 1, 1) := by decide +kernel
theorem d_M_linesHold_22 : decode b_M_linesHold 22 = .ok (.iaload, 1) := by decide +kernel
theorem d_M_linesHold_23 : decode b_M_linesHold 23 = .ok (.i2l, 1) := by decide +kernel
theorem d_M_linesHold_24 : decode b_M_linesHold 24 = .ok (.aload_n 0, 1) := by decide +kernel
theorem d_M_linesHold_25 : decode b_M_linesHold 25 = .ok (.getfield 130, 3) := by decide +kernel
theorem d_M_linesHold_28 : decode b_M_linesHold 28 = .ok (.lmul, 1) := by decide +kernel
theorem d_M_linesHold_29 : decode b_M_linesHold 29 = .ok (.lcmp, 1) := by decide +kernel
theorem d_M_linesHold_30 : decode b_M_linesHold 30 = .ok (.ifCond .gt 21, 3) := by decide +kernel
theorem d_M_linesHold_33 : decode b_M_linesHold 33 = .ok (.lload_n 2, 1) := by decide +kernel
theorem d_M_linesHold_34 : decode b_M_linesHold 34 = .ok (.aload_n 0, 1) := by decide +kernel
theorem d_M_linesHold_35 : decode b_M_linesHold 35 = .ok (.getfield 19, 3) := by decide +kernel
theorem d_M_linesHold_38 : decode b_M_linesHold 38 = .ok (.iload_n 1, 1) := by decide +kernel
theorem d_M_linesHold_39 : decode b_M_linesHold 39 = .ok (.iaload, 1) := by decide +kernel
theorem d_M_linesHold_40 : decode b_M_linesHold 40 = .ok (.ineg, 1) := by decide +kernel
theorem d_M_linesHold_41 : decode b_M_linesHold 41 = .ok (.i2l, 1) := by decide +kernel
theorem d_M_linesHold_42 : decode b_M_linesHold 42 = .ok (.aload_n 0, 1) := by decide +kernel
theorem d_M_linesHold_43 : decode b_M_linesHold 43 = .ok (.getfield 130, 3) := by decide +kernel
theorem d_M_linesHold_46 : decode b_M_linesHold 46 = .ok (.lmul, 1) := by decide +kernel
theorem d_M_linesHold_47 : decode b_M_linesHold 47 = .ok (.lcmp, 1) := by decide +kernel
theorem d_M_linesHold_48 : decode b_M_linesHold 48 = .ok (.ifCond .ge 5, 3) := by decide +kernel
theorem d_M_linesHold_51 : decode b_M_linesHold 51 = .ok (.iconst 0, 1) := by decide +kernel
theorem d_M_linesHold_52 : decode b_M_linesHold 52 = .ok (.ireturn, 1) := by decide +kernel
theorem d_M_linesHold_53 : decode b_M_linesHold 53 = .ok (.iinc 1 1, 3) := by decide +kernel
theorem d_M_linesHold_56 : decode b_M_linesHold 56 = .ok (.goto (-54), 3) := by decide +kernel
theorem d_M_linesHold_59 : decode b_M_linesHold 59 = .ok (.iconst 1, 1) := by decide +kernel
theorem d_M_linesHold_60 : decode b_M_linesHold 60 = .ok (.ireturn, 1) := by decide +kernel
theorem d_M_use_0 : decode b_M_use 0 = .ok (.aload_n 0, 1) := by decide +kernel
theorem d_M_use_1 : decode b_M_use 1 = .ok (.iload_n 1, 1) := by decide +kernel
theorem d_M_use_2 : decode b_M_use 2 = .ok (.invokevirtual 137, 3) := by decide +kernel
theorem d_M_use_5 : decode b_M_use 5 = .ok (.lload_n 2, 1) := by decide +kernel
theorem d_M_use_6 : decode b_M_use 6 = .ok (.lsub, 1) := by decide +kernel
theorem d_M_use_7 : decode b_M_use 7 = .ok (.aload_n 0, 1) := by decide +kernel
theorem d_M_use_8 : decode b_M_use 8 = .ok (.iload_n 1, 1) := by decide +kernel
theorem d_M_use_9 : decode b_M_use 9 = .ok (.invokevirtual 112, 3) := by decide +kernel
theorem d_M_use_12 : decode b_M_use 12 = .ok (.aload_n 0, 1) := by decide +kernel
theorem d_M_use_13 : decode b_M_use 13 = .ok (.getfield 130, 3) := by decide +kernel
theorem d_M_use_16 : decode b_M_use 16 = .ok (.lmul, 1) := by decide +kernel
theorem d_M_use_17 : decode b_M_use 17 = .ok (.ladd, 1) := by decide +kernel
theorem d_M_use_18 : decode b_M_use 18 = .ok (.lstore 4, 2) := by decide +kernel
theorem d_M_use_20 : decode b_M_use 20 = .ok (.lload 4, 2) := by decide +kernel
theorem d_M_use_22 : decode b_M_use 22 = .ok (.lconst 0, 1) := by decide +kernel
theorem d_M_use_23 : decode b_M_use 23 = .ok (.lcmp, 1) := by decide +kernel
theorem d_M_use_24 : decode b_M_use 24 = .ok (.ifCond .ge 5, 3) := by decide +kernel
theorem d_M_use_27 : decode b_M_use 27 = .ok (.iconst 0, 1) := by decide +kernel
theorem d_M_use_28 : decode b_M_use 28 = .ok (.ireturn, 1) := by decide +kernel
theorem d_M_use_29 : decode b_M_use 29 = .ok (.iconst 0, 1) := by decide +kernel
theorem d_M_use_30 : decode b_M_use 30 = .ok (.istore 6, 2) := by decide +kernel
theorem d_M_use_32 : decode b_M_use 32 = .ok (.iload 6, 2) := by decide +kernel
theorem d_M_use_34 : decode b_M_use 34 = .ok (.aload_n 0, 1) := by decide +kernel
theorem d_M_use_35 : decode b_M_use 35 = .ok (.getfield 94, 3) := by decide +kernel
theorem d_M_use_38 : decode b_M_use 38 = .ok (.if_icmp .ge 95, 3) := by decide +kernel
theorem d_M_use_41 : decode b_M_use 41 = .ok (.aload_n 0, 1) := by decide +kernel
theorem d_M_use_42 : decode b_M_use 42 = .ok (.getfield 35, 3) := by decide +kernel
theorem d_M_use_45 : decode b_M_use 45 = .ok (.iload 6, 2) := by decide +kernel
theorem d_M_use_47 : decode b_M_use 47 = .ok (.iaload, 1) := by decide +kernel
theorem d_M_use_48 : decode b_M_use 48 = .ok (.istore 7, 2) := by decide +kernel
theorem d_M_use_50 : decode b_M_use 50 = .ok (.aload_n 0, 1) := by decide +kernel
theorem d_M_use_51 : decode b_M_use 51 = .ok (.getfield 26, 3) := by decide +kernel
theorem d_M_use_54 : decode b_M_use 54 = .ok (.iload 7, 2) := by decide +kernel
theorem d_M_use_56 : decode b_M_use 56 = .ok (.iaload, 1) := by decide +kernel
theorem d_M_use_57 : decode b_M_use 57 = .ok (.iload_n 1, 1) := by decide +kernel
theorem d_M_use_58 : decode b_M_use 58 = .ok (.if_icmp .ne 69, 3) := by decide +kernel
theorem d_M_use_61 : decode b_M_use 61 = .ok (.aload_n 0, 1) := by decide +kernel
theorem d_M_use_62 : decode b_M_use 62 = .ok (.getfield 32, 3) := by decide +kernel
theorem d_M_use_65 : decode b_M_use 65 = .ok (.iload 7, 2) := by decide +kernel
theorem d_M_use_67 : decode b_M_use 67 = .ok (.iaload, 1) := by decide +kernel
theorem d_M_use_68 : decode b_M_use 68 = .ok (.i2l, 1) := by decide +kernel
theorem d_M_use_69 : decode b_M_use 69 = .ok (.aload_n 0, 1) := by decide +kernel
theorem d_M_use_70 : decode b_M_use 70 = .ok (.getfield 130, 3) := by decide +kernel
theorem d_M_use_73 : decode b_M_use 73 = .ok (.lmul, 1) := by decide +kernel
theorem d_M_use_74 : decode b_M_use 74 = .ok (.lstore 8, 2) := by decide +kernel
theorem d_M_use_76 : decode b_M_use 76 = .ok (.lload 4, 2) := by decide +kernel
theorem d_M_use_78 : decode b_M_use 78 = .ok (.lload 8, 2) := by decide +kernel
theorem d_M_use_80 : decode b_M_use 80 = .ok (.lcmp, 1) := by decide +kernel
theorem d_M_use_81 : decode b_M_use 81 = .ok (.ifCond .ge 8, 3) := by decide +kernel
theorem d_M_use_84 : decode b_M_use 84 = .ok (.lload 4, 2) := by decide +kernel
theorem d_M_use_86 : decode b_M_use 86 = .ok (.goto 5, 3) := by decide +kernel
theorem d_M_use_89 : decode b_M_use 89 = .ok (.lload 8, 2) := by decide +kernel
theorem d_M_use_91 : decode b_M_use 91 = .ok (.lstore 10, 2) := by decide +kernel
theorem d_M_use_93 : decode b_M_use 93 = .ok (.lload 4, 2) := by decide +kernel
theorem d_M_use_95 : decode b_M_use 95 = .ok (.lload 10, 2) := by decide +kernel
theorem d_M_use_97 : decode b_M_use 97 = .ok (.lsub, 1) := by decide +kernel
theorem d_M_use_98 : decode b_M_use 98 = .ok (.lstore 4, 2) := by decide +kernel
theorem d_M_use_100 : decode b_M_use 100 = .ok (.aload_n 0, 1) := by decide +kernel
theorem d_M_use_101 : decode b_M_use 101 = .ok (.getfield 57, 3) := by decide +kernel
theorem d_M_use_104 : decode b_M_use 104 = .ok (.iload 7, 2) := by decide +kernel
theorem d_M_use_106 : decode b_M_use 106 = .ok (.aload_n 0, 1) := by decide +kernel
theorem d_M_use_107 : decode b_M_use 107 = .ok (.getfield 22, 3) := by decide +kernel
theorem d_M_use_110 : decode b_M_use 110 = .ok (.iload 7, 2) := by decide +kernel
theorem d_M_use_112 : decode b_M_use 112 = .ok (.baload, 1) := by decide +kernel
theorem d_M_use_113 : decode b_M_use 113 = .ok (.ifCond .eq 8, 3) := by decide +kernel
theorem d_M_use_116 : decode b_M_use 116 = .ok (.lload 10, 2) := by decide +kernel
theorem d_M_use_118 : decode b_M_use 118 = .ok (.goto 8, 3) := by decide +kernel
theorem d_M_use_121 : decode b_M_use 121 = .ok (.lload 8, 2) := by decide +kernel
theorem d_M_use_123 : decode b_M_use 123 = .ok (.lload 10, 2) := by decide +kernel
theorem d_M_use_125 : decode b_M_use 125 = .ok (.lsub, 1) := by decide +kernel
theorem d_M_use_126 : decode b_M_use 126 = .ok (.lastore, 1) := by decide +kernel
theorem d_M_use_127 : decode b_M_use 127 = .ok (.iinc 6 1, 3) := by decide +kernel
theorem d_M_use_130 : decode b_M_use 130 = .ok (.goto (-98), 3) := by decide +kernel
theorem d_M_use_133 : decode b_M_use 133 = .ok (.lload 4, 2) := by decide +kernel
theorem d_M_use_135 : decode b_M_use 135 = .ok (.lconst 0, 1) := by decide +kernel
theorem d_M_use_136 : decode b_M_use 136 = .ok (.lcmp, 1) := by decide +kernel
theorem d_M_use_137 : decode b_M_use 137 = .ok (.ifCond .ne 7, 3) := by decide +kernel
theorem d_M_use_140 : decode b_M_use 140 = .ok (.iconst 1, 1) := by decide +kernel
theorem d_M_use_141 : decode b_M_use 141 = .ok (.goto 4, 3) := by decide +kernel
theorem d_M_use_144 : decode b_M_use 144 = .ok (.iconst 0, 1) := by decide +kernel
theorem d_M_use_145 : decode b_M_use 145 = .ok (.ireturn, 1) := by decide +kernel
theorem d_M_useAll_0 : decode b_M_useAll 0 = .ok (.iconst 0, 1) := by decide +kernel
theorem d_M_useAll_1 : decode b_M_useAll 1 = .ok (.istore_n 2, 1) := by decide +kernel
theorem d_M_useAll_2 : decode b_M_useAll 2 = .ok (.iload_n 2, 1) := by decide +kernel
theorem d_M_useAll_3 : decode b_M_useAll 3 = .ok (.iconst 4, 1) := by decide +kernel
theorem d_M_useAll_4 : decode b_M_useAll 4 = .ok (.if_icmp .ge 32, 3) := by decide +kernel
theorem d_M_useAll_7 : decode b_M_useAll 7 = .ok (.aload_n 0, 1) := by decide +kernel
theorem d_M_useAll_8 : decode b_M_useAll 8 = .ok (.iload_n 2, 1) := by decide +kernel
theorem d_M_useAll_9 : decode b_M_useAll 9 = .ok (.iload_n 2, 1) := by decide +kernel
theorem d_M_useAll_10 : decode b_M_useAll 10 = .ok (.iload_n 1, 1) := by decide +kernel
theorem d_M_useAll_11 : decode b_M_useAll 11 = .ok (.if_icmp .ne 10, 3) := by decide +kernel
theorem d_M_useAll_14 : decode b_M_useAll 14 = .ok (.aload_n 0, 1) := by decide +kernel
theorem d_M_useAll_15 : decode b_M_useAll 15 = .ok (.getfield 130, 3) := by decide +kernel
theorem d_M_useAll_18 : decode b_M_useAll 18 = .ok (.goto 4, 3) := by decide +kernel
theorem d_M_useAll_21 : decode b_M_useAll 21 = .ok (.lconst 0, 1) := by decide +kernel
theorem d_M_useAll_22 : decode b_M_useAll 22 = .ok (.invokevirtual 140, 3) := by decide +kernel
theorem d_M_useAll_25 : decode b_M_useAll 25 = .ok (.ifCond .ne 5, 3) := by decide +kernel
theorem d_M_useAll_28 : decode b_M_useAll 28 = .ok (.iconst 0, 1) := by decide +kernel
theorem d_M_useAll_29 : decode b_M_useAll 29 = .ok (.ireturn, 1) := by decide +kernel
theorem d_M_useAll_30 : decode b_M_useAll 30 = .ok (.iinc 2 1, 3) := by decide +kernel
theorem d_M_useAll_33 : decode b_M_useAll 33 = .ok (.goto (-31), 3) := by decide +kernel
theorem d_M_useAll_36 : decode b_M_useAll 36 = .ok (.aload_n 0, 1) := by decide +kernel
theorem d_M_useAll_37 : decode b_M_useAll 37 = .ok (.lconst 0, 1) := by decide +kernel
theorem d_M_useAll_38 : decode b_M_useAll 38 = .ok (.putfield 144, 3) := by decide +kernel
theorem d_M_useAll_41 : decode b_M_useAll 41 = .ok (.iconst 0, 1) := by decide +kernel
theorem d_M_useAll_42 : decode b_M_useAll 42 = .ok (.istore_n 2, 1) := by decide +kernel
theorem d_M_useAll_43 : decode b_M_useAll 43 = .ok (.iload_n 2, 1) := by decide +kernel
theorem d_M_useAll_44 : decode b_M_useAll 44 = .ok (.aload_n 0, 1) := by decide +kernel
theorem d_M_useAll_45 : decode b_M_useAll 45 = .ok (.getfield 94, 3) := by decide +kernel
theorem d_M_useAll_48 : decode b_M_useAll 48 = .ok (.if_icmp .ge 63, 3) := by decide +kernel
theorem d_M_useAll_51 : decode b_M_useAll 51 = .ok (.aload_n 0, 1) := by decide +kernel
theorem d_M_useAll_52 : decode b_M_useAll 52 = .ok (.aload_n 0, 1) := by decide +kernel
theorem d_M_useAll_53 : decode b_M_useAll 53 = .ok (.getfield 22, 3) := by decide +kernel
theorem d_M_useAll_56 : decode b_M_useAll 56 = .ok (.iload_n 2, 1) := by decide +kernel
theorem d_M_useAll_57 : decode b_M_useAll 57 = .ok (.baload, 1) := by decide +kernel
theorem d_M_useAll_58 : decode b_M_useAll 58 = .ok (.ifCond .eq 25, 3) := by decide +kernel
theorem d_M_useAll_61 : decode b_M_useAll 61 = .ok (.aload_n 0, 1) := by decide +kernel
theorem d_M_useAll_62 : decode b_M_useAll 62 = .ok (.getfield 144, 3) := by decide +kernel
theorem d_M_useAll_65 : decode b_M_useAll 65 = .ok (.aload_n 0, 1) := by decide +kernel
theorem d_M_useAll_66 : decode b_M_useAll 66 = .ok (.getfield 29, 3) := by decide +kernel
theorem d_M_useAll_69 : decode b_M_useAll 69 = .ok (.iload_n 2, 1) := by decide +kernel
theorem d_M_useAll_70 : decode b_M_useAll 70 = .ok (.iaload, 1) := by decide +kernel
theorem d_M_useAll_71 : decode b_M_useAll 71 = .ok (.i2l, 1) := by decide +kernel
theorem d_M_useAll_72 : decode b_M_useAll 72 = .ok (.aload_n 0, 1) := by decide +kernel
theorem d_M_useAll_73 : decode b_M_useAll 73 = .ok (.getfield 57, 3) := by decide +kernel
theorem d_M_useAll_76 : decode b_M_useAll 76 = .ok (.iload_n 2, 1) := by decide +kernel
theorem d_M_useAll_77 : decode b_M_useAll 77 = .ok (.laload, 1) := by decide +kernel
theorem d_M_useAll_78 : decode b_M_useAll 78 = .ok (.lmul, 1) := by decide +kernel
theorem d_M_useAll_79 : decode b_M_useAll 79 = .ok (.ladd, 1) := by decide +kernel
theorem d_M_useAll_80 : decode b_M_useAll 80 = .ok (.goto 22, 3) := by decide +kernel
theorem d_M_useAll_83 : decode b_M_useAll 83 = .ok (.aload_n 0, 1) := by decide +kernel
theorem d_M_useAll_84 : decode b_M_useAll 84 = .ok (.getfield 144, 3) := by decide +kernel
theorem d_M_useAll_87 : decode b_M_useAll 87 = .ok (.aload_n 0, 1) := by decide +kernel
theorem d_M_useAll_88 : decode b_M_useAll 88 = .ok (.getfield 29, 3) := by decide +kernel
theorem d_M_useAll_91 : decode b_M_useAll 91 = .ok (.iload_n 2, 1) := by decide +kernel
theorem d_M_useAll_92 : decode b_M_useAll 92 = .ok (.iaload, 1) := by decide +kernel
theorem d_M_useAll_93 : decode b_M_useAll 93 = .ok (.i2l, 1) := by decide +kernel
theorem d_M_useAll_94 : decode b_M_useAll 94 = .ok (.aload_n 0, 1) := by decide +kernel
theorem d_M_useAll_95 : decode b_M_useAll 95 = .ok (.getfield 57, 3) := by decide +kernel
theorem d_M_useAll_98 : decode b_M_useAll 98 = .ok (.iload_n 2, 1) := by decide +kernel
theorem d_M_useAll_99 : decode b_M_useAll 99 = .ok (.laload, 1) := by decide +kernel
theorem d_M_useAll_100 : decode b_M_useAll 100 = .ok (.lmul, 1) := by decide +kernel
theorem d_M_useAll_101 : decode b_M_useAll 101 = .ok (.lsub, 1) := by decide +kernel
theorem d_M_useAll_102 : decode b_M_useAll 102 = .ok (.putfield 144, 3) := by decide +kernel
theorem d_M_useAll_105 : decode b_M_useAll 105 = .ok (.iinc 2 1, 3) := by decide +kernel
theorem d_M_useAll_108 : decode b_M_useAll 108 = .ok (.goto (-65), 3) := by decide +kernel
theorem d_M_useAll_111 : decode b_M_useAll 111 = .ok (.iconst 1, 1) := by decide +kernel
theorem d_M_useAll_112 : decode b_M_useAll 112 = .ok (.ireturn, 1) := by decide +kernel
theorem d_M_better_0 : decode b_M_better 0 = .ok (.aload_n 0, 1) := by decide +kernel
theorem d_M_better_1 : decode b_M_better 1 = .ok (.getfield 147, 3) := by decide +kernel
theorem d_M_better_4 : decode b_M_better 4 = .ok (.ifCond .ne 5, 3) := by decide +kernel
theorem d_M_better_7 : decode b_M_better 7 = .ok (.iconst 1, 1) := by decide +kernel
theorem d_M_better_8 : decode b_M_better 8 = .ok (.ireturn, 1) := by decide +kernel
theorem d_M_better_9 : decode b_M_better 9 = .ok (.aload_n 0, 1) := by decide +kernel
theorem d_M_better_10 : decode b_M_better 10 = .ok (.getfield 144, 3) := by decide +kernel
theorem d_M_better_13 : decode b_M_better 13 = .ok (.aload_n 0, 1) := by decide +kernel
theorem d_M_better_14 : decode b_M_better 14 = .ok (.getfield 150, 3) := by decide +kernel
theorem d_M_better_17 : decode b_M_better 17 = .ok (.lmul, 1) := by decide +kernel
theorem d_M_better_18 : decode b_M_better 18 = .ok (.lstore_n 1, 1) := by decide +kernel
theorem d_M_better_19 : decode b_M_better 19 = .ok (.aload_n 0, 1) := by decide +kernel
theorem d_M_better_20 : decode b_M_better 20 = .ok (.getfield 153, 3) := by decide +kernel
theorem d_M_better_23 : decode b_M_better 23 = .ok (.aload_n 0, 1) := by decide +kernel
theorem d_M_better_24 : decode b_M_better 24 = .ok (.getfield 130, 3) := by decide +kernel
theorem d_M_better_27 : decode b_M_better 27 = .ok (.lmul, 1) := by decide +kernel
theorem d_M_better_28 : decode b_M_better 28 = .ok (.lstore_n 3, 1) := by decide +kernel
theorem d_M_better_29 : decode b_M_better 29 = .ok (.iconst 0, 1) := by decide +kernel
theorem d_M_better_30 : decode b_M_better 30 = .ok (.istore 5, 2) := by decide +kernel
theorem d_M_better_32 : decode b_M_better 32 = .ok (.iload 5, 2) := by decide +kernel
theorem d_M_better_34 : decode b_M_better 34 = .ok (.aload_n 0, 1) := by decide +kernel
theorem d_M_better_35 : decode b_M_better 35 = .ok (.getfield 94, 3) := by decide +kernel
theorem d_M_better_38 : decode b_M_better 38 = .ok (.if_icmp .ge 41, 3) := by decide +kernel
theorem d_M_better_41 : decode b_M_better 41 = .ok (.lload_n 1, 1) := by decide +kernel
theorem d_M_better_42 : decode b_M_better 42 = .ok (.lload_n 3, 1) := by decide +kernel
theorem d_M_better_43 : decode b_M_better 43 = .ok (.lcmp, 1) := by decide +kernel
theorem d_M_better_44 : decode b_M_better 44 = .ok (.ifCond .ne 35, 3) := by decide +kernel
theorem d_M_better_47 : decode b_M_better 47 = .ok (.aload_n 0, 1) := by decide +kernel
theorem d_M_better_48 : decode b_M_better 48 = .ok (.getfield 57, 3) := by decide +kernel
theorem d_M_better_51 : decode b_M_better 51 = .ok (.iload 5, 2) := by decide +kernel
theorem d_M_better_53 : decode b_M_better 53 = .ok (.laload, 1) := by decide +kernel
theorem d_M_better_54 : decode b_M_better 54 = .ok (.aload_n 0, 1) := by decide +kernel
theorem d_M_better_55 : decode b_M_better 55 = .ok (.getfield 150, 3) := by decide +kernel
theorem d_M_better_58 : decode b_M_better 58 = .ok (.lmul, 1) := by decide +kernel
theorem d_M_better_59 : decode b_M_better 59 = .ok (.lstore_n 1, 1) := by decide +kernel
theorem d_M_better_60 : decode b_M_better 60 = .ok (.aload_n 0, 1) := by decide +kernel
theorem d_M_better_61 : decode b_M_better 61 = .ok (.getfield 63, 3) := by decide +kernel
theorem d_M_better_64 : decode b_M_better 64 = .ok (.iload 5, 2) := by decide +kernel
theorem d_M_better_66 : decode b_M_better 66 = .ok (.laload, 1) := by decide +kernel
theorem d_M_better_67 : decode b_M_better 67 = .ok (.aload_n 0, 1) := by decide +kernel
theorem d_M_better_68 : decode b_M_better 68 = .ok (.getfield 130, 3) := by decide +kernel
theorem d_M_better_71 : decode b_M_better 71 = .ok (.lmul, 1) := by decide +kernel
theorem d_M_better_72 : decode b_M_better 72 = .ok (.lstore_n 3, 1) := by decide +kernel
theorem d_M_better_73 : decode b_M_better 73 = .ok (.iinc 5 1, 3) := by decide +kernel
theorem d_M_better_76 : decode b_M_better 76 = .ok (.goto (-44), 3) := by decide +kernel
theorem d_M_better_79 : decode b_M_better 79 = .ok (.lload_n 1, 1) := by decide +kernel
theorem d_M_better_80 : decode b_M_better 80 = .ok (.lload_n 3, 1) := by decide +kernel
theorem d_M_better_81 : decode b_M_better 81 = .ok (.lcmp, 1) := by decide +kernel
theorem d_M_better_82 : decode b_M_better 82 = .ok (.ifCond .le 7, 3) := by decide +kernel
theorem d_M_better_85 : decode b_M_better 85 = .ok (.iconst 1, 1) := by decide +kernel
theorem d_M_better_86 : decode b_M_better 86 = .ok (.goto 4, 3) := by decide +kernel
theorem d_M_better_89 : decode b_M_better 89 = .ok (.iconst 0, 1) := by decide +kernel
theorem d_M_better_90 : decode b_M_better 90 = .ok (.ireturn, 1) := by decide +kernel
theorem d_M_keep_0 : decode b_M_keep 0 = .ok (.aload_n 0, 1) := by decide +kernel
theorem d_M_keep_1 : decode b_M_keep 1 = .ok (.iconst 1, 1) := by decide +kernel
theorem d_M_keep_2 : decode b_M_keep 2 = .ok (.putfield 147, 3) := by decide +kernel
theorem d_M_keep_5 : decode b_M_keep 5 = .ok (.aload_n 0, 1) := by decide +kernel
theorem d_M_keep_6 : decode b_M_keep 6 = .ok (.aload_n 0, 1) := by decide +kernel
theorem d_M_keep_7 : decode b_M_keep 7 = .ok (.getfield 130, 3) := by decide +kernel
theorem d_M_keep_10 : decode b_M_keep 10 = .ok (.putfield 150, 3) := by decide +kernel
theorem d_M_keep_13 : decode b_M_keep 13 = .ok (.aload_n 0, 1) := by decide +kernel
theorem d_M_keep_14 : decode b_M_keep 14 = .ok (.aload_n 0, 1) := by decide +kernel
theorem d_M_keep_15 : decode b_M_keep 15 = .ok (.getfield 144, 3) := by decide +kernel
theorem d_M_keep_18 : decode b_M_keep 18 = .ok (.putfield 153, 3) := by decide +kernel
theorem d_M_keep_21 : decode b_M_keep 21 = .ok (.iconst 0, 1) := by decide +kernel
theorem d_M_keep_22 : decode b_M_keep 22 = .ok (.istore_n 1, 1) := by decide +kernel
theorem d_M_keep_23 : decode b_M_keep 23 = .ok (.iload_n 1, 1) := by decide +kernel
theorem d_M_keep_24 : decode b_M_keep 24 = .ok (.aload_n 0, 1) := by decide +kernel
theorem d_M_keep_25 : decode b_M_keep 25 = .ok (.getfield 94, 3) := by decide +kernel
theorem d_M_keep_28 : decode b_M_keep 28 = .ok (.if_icmp .ge 21, 3) := by decide +kernel
theorem d_M_keep_31 : decode b_M_keep 31 = .ok (.aload_n 0, 1) := by decide +kernel
theorem d_M_keep_32 : decode b_M_keep 32 = .ok (.getfield 63, 3) := by decide +kernel
theorem d_M_keep_35 : decode b_M_keep 35 = .ok (.iload_n 1, 1) := by decide +kernel
theorem d_M_keep_36 : decode b_M_keep 36 = .ok (.aload_n 0, 1) := by decide +kernel
theorem d_M_keep_37 : decode b_M_keep 37 = .ok (.getfield 57, 3) := by decide +kernel
theorem d_M_keep_40 : decode b_M_keep 40 = .ok (.iload_n 1, 1) := by decide +kernel
theorem d_M_keep_41 : decode b_M_keep 41 = .ok (.laload, 1) := by decide +kernel
theorem d_M_keep_42 : decode b_M_keep 42 = .ok (.lastore, 1) := by decide +kernel
theorem d_M_keep_43 : decode b_M_keep 43 = .ok (.iinc 1 1, 3) := by decide +kernel
theorem d_M_keep_46 : decode b_M_keep 46 = .ok (.goto (-23), 3) := by decide +kernel
theorem d_M_keep_49 : decode b_M_keep 49 = .ok (.iconst 0, 1) := by decide +kernel
theorem d_M_keep_50 : decode b_M_keep 50 = .ok (.istore_n 1, 1) := by decide +kernel
theorem d_M_keep_51 : decode b_M_keep 51 = .ok (.iload_n 1, 1) := by decide +kernel
theorem d_M_keep_52 : decode b_M_keep 52 = .ok (.iconst 4, 1) := by decide +kernel
theorem d_M_keep_53 : decode b_M_keep 53 = .ok (.if_icmp .ge 21, 3) := by decide +kernel
theorem d_M_keep_56 : decode b_M_keep 56 = .ok (.aload_n 0, 1) := by decide +kernel
theorem d_M_keep_57 : decode b_M_keep 57 = .ok (.getfield 60, 3) := by decide +kernel
theorem d_M_keep_60 : decode b_M_keep 60 = .ok (.iload_n 1, 1) := by decide +kernel
theorem d_M_keep_61 : decode b_M_keep 61 = .ok (.aload_n 0, 1) := by decide +kernel
theorem d_M_keep_62 : decode b_M_keep 62 = .ok (.getfield 54, 3) := by decide +kernel
theorem d_M_keep_65 : decode b_M_keep 65 = .ok (.iload_n 1, 1) := by decide +kernel
theorem d_M_keep_66 : decode b_M_keep 66 = .ok (.laload, 1) := by decide +kernel
theorem d_M_keep_67 : decode b_M_keep 67 = .ok (.lastore, 1) := by decide +kernel
theorem d_M_keep_68 : decode b_M_keep 68 = .ok (.iinc 1 1, 3) := by decide +kernel
theorem d_M_keep_71 : decode b_M_keep 71 = .ok (.goto (-20), 3) := by decide +kernel
theorem d_M_keep_74 : decode b_M_keep 74 = .ok (.return_, 1) := by decide +kernel
theorem d_M_search_0 : decode b_M_search 0 = .ok (.aload_n 0, 1) := by decide +kernel
theorem d_M_search_1 : decode b_M_search 1 = .ok (.iconst 0, 1) := by decide +kernel
theorem d_M_search_2 : decode b_M_search 2 = .ok (.putfield 147, 3) := by decide +kernel
theorem d_M_search_5 : decode b_M_search 5 = .ok (.aload_n 0, 1) := by decide +kernel
theorem d_M_search_6 : decode b_M_search 6 = .ok (.invokevirtual 156, 3) := by decide +kernel
theorem d_M_search_9 : decode b_M_search 9 = .ok (.aload_n 0, 1) := by decide +kernel
theorem d_M_search_10 : decode b_M_search 10 = .ok (.invokevirtual 159, 3) := by decide +kernel
theorem d_M_search_13 : decode b_M_search 13 = .ok (.aload_n 0, 1) := by decide +kernel
theorem d_M_search_14 : decode b_M_search 14 = .ok (.iload_n 1, 1) := by decide +kernel
theorem d_M_search_15 : decode b_M_search 15 = .ok (.invokevirtual 162, 3) := by decide +kernel
theorem d_M_search_18 : decode b_M_search 18 = .ok (.iconst 0, 1) := by decide +kernel
theorem d_M_search_19 : decode b_M_search 19 = .ok (.istore_n 2, 1) := by decide +kernel
theorem d_M_search_20 : decode b_M_search 20 = .ok (.iload_n 2, 1) := by decide +kernel
theorem d_M_search_21 : decode b_M_search 21 = .ok (.aload_n 0, 1) := by decide +kernel
theorem d_M_search_22 : decode b_M_search 22 = .ok (.getfield 105, 3) := by decide +kernel
theorem d_M_search_25 : decode b_M_search 25 = .ok (.if_icmp .ge 84, 3) := by decide +kernel
theorem d_M_search_28 : decode b_M_search 28 = .ok (.iload_n 2, 1) := by decide +kernel
theorem d_M_search_29 : decode b_M_search 29 = .ok (.iconst 1, 1) := by decide +kernel
theorem d_M_search_30 : decode b_M_search 30 = .ok (.iadd, 1) := by decide +kernel
theorem d_M_search_31 : decode b_M_search 31 = .ok (.istore_n 3, 1) := by decide +kernel
theorem d_M_search_32 : decode b_M_search 32 = .ok (.iload_n 3, 1) := by decide +kernel
theorem d_M_search_33 : decode b_M_search 33 = .ok (.aload_n 0, 1) := by decide +kernel
theorem d_M_search_34 : decode b_M_search 34 = .ok (.getfield 105, 3) := by decide +kernel
theorem d_M_search_37 : decode b_M_search 37 = .ok (.if_icmp .ge 66, 3) := by decide +kernel
theorem d_M_search_40 : decode b_M_search 40 = .ok (.iload_n 3, 1) := by decide +kernel
theorem d_M_search_41 : decode b_M_search 41 = .ok (.iconst 1, 1) := by decide +kernel
theorem d_M_search_42 : decode b_M_search 42 = .ok (.iadd, 1) := by decide +kernel
theorem d_M_search_43 : decode b_M_search 43 = .ok (.istore 4, 2) := by decide +kernel
theorem d_M_search_45 : decode b_M_search 45 = .ok (.iload 4, 2) := by decide +kernel
theorem d_M_search_47 : decode b_M_search 47 = .ok (.aload_n 0, 1) := by decide +kernel
theorem d_M_search_48 : decode b_M_search 48 = .ok (.getfield 105, 3) := by decide +kernel
theorem d_M_search_51 : decode b_M_search 51 = .ok (.if_icmp .ge 46, 3) := by decide +kernel
theorem d_M_search_54 : decode b_M_search 54 = .ok (.aload_n 0, 1) := by decide +kernel
theorem d_M_search_55 : decode b_M_search 55 = .ok (.iload_n 2, 1) := by decide +kernel
theorem d_M_search_56 : decode b_M_search 56 = .ok (.iload_n 3, 1) := by decide +kernel
theorem d_M_search_57 : decode b_M_search 57 = .ok (.iload 4, 2) := by decide +kernel
theorem d_M_search_59 : decode b_M_search 59 = .ok (.invokevirtual 166, 3) := by decide +kernel
theorem d_M_search_62 : decode b_M_search 62 = .ok (.ifCond .eq 29, 3) := by decide +kernel
theorem d_M_search_65 : decode b_M_search 65 = .ok (.aload_n 0, 1) := by decide +kernel
theorem d_M_search_66 : decode b_M_search 66 = .ok (.invokevirtual 169, 3) := by decide +kernel
theorem d_M_search_69 : decode b_M_search 69 = .ok (.ifCond .eq 22, 3) := by decide +kernel
theorem d_M_search_72 : decode b_M_search 72 = .ok (.aload_n 0, 1) := by decide +kernel
theorem d_M_search_73 : decode b_M_search 73 = .ok (.iload_n 1, 1) := by decide +kernel
theorem d_M_search_74 : decode b_M_search 74 = .ok (.invokevirtual 173, 3) := by decide +kernel
theorem d_M_search_77 : decode b_M_search 77 = .ok (.ifCond .eq 14, 3) := by decide +kernel
theorem d_M_search_80 : decode b_M_search 80 = .ok (.aload_n 0, 1) := by decide +kernel
theorem d_M_search_81 : decode b_M_search 81 = .ok (.invokevirtual 177, 3) := by decide +kernel
theorem d_M_search_84 : decode b_M_search 84 = .ok (.ifCond .eq 7, 3) := by decide +kernel
theorem d_M_search_87 : decode b_M_search 87 = .ok (.aload_n 0, 1) := by decide +kernel
theorem d_M_search_88 : decode b_M_search 88 = .ok (.invokevirtual 180, 3) := by decide +kernel
theorem d_M_search_91 : decode b_M_search 91 = .ok (.iinc 4 1, 3) := by decide +kernel
theorem d_M_search_94 : decode b_M_search 94 = .ok (.goto (-49), 3) := by decide +kernel
theorem d_M_search_97 : decode b_M_search 97 = .ok (.iinc 3 1, 3) := by decide +kernel
theorem d_M_search_100 : decode b_M_search 100 = .ok (.goto (-68), 3) := by decide +kernel
theorem d_M_search_103 : decode b_M_search 103 = .ok (.iinc 2 1, 3) := by decide +kernel
theorem d_M_search_106 : decode b_M_search 106 = .ok (.goto (-86), 3) := by decide +kernel
theorem d_M_search_109 : decode b_M_search 109 = .ok (.return_, 1) := by decide +kernel
theorem d_M_divisor_0 : decode b_M_divisor 0 = .ok (.lload_n 0, 1) := by decide +kernel
theorem d_M_divisor_1 : decode b_M_divisor 1 = .ok (.lconst 0, 1) := by decide +kernel
theorem d_M_divisor_2 : decode b_M_divisor 2 = .ok (.lcmp, 1) := by decide +kernel
theorem d_M_divisor_3 : decode b_M_divisor 3 = .ok (.ifCond .ge 8, 3) := by decide +kernel
theorem d_M_divisor_6 : decode b_M_divisor 6 = .ok (.lload_n 0, 1) := by decide +kernel
theorem d_M_divisor_7 : decode b_M_divisor 7 = .ok (.lneg, 1) := by decide +kernel
theorem d_M_divisor_8 : decode b_M_divisor 8 = .ok (.goto 4, 3) := by decide +kernel
theorem d_M_divisor_11 : decode b_M_divisor 11 = .ok (.lload_n 0, 1) := by decide +kernel
theorem d_M_divisor_12 : decode b_M_divisor 12 = .ok (.lstore 4, 2) := by decide +kernel
theorem d_M_divisor_14 : decode b_M_divisor 14 = .ok (.lload_n 2, 1) := by decide +kernel
theorem d_M_divisor_15 : decode b_M_divisor 15 = .ok (.lconst 0, 1) := by decide +kernel
theorem d_M_divisor_16 : decode b_M_divisor 16 = .ok (.lcmp, 1) := by decide +kernel
theorem d_M_divisor_17 : decode b_M_divisor 17 = .ok (.ifCond .ge 8, 3) := by decide +kernel
theorem d_M_divisor_20 : decode b_M_divisor 20 = .ok (.lload_n 2, 1) := by decide +kernel
theorem d_M_divisor_21 : decode b_M_divisor 21 = .ok (.lneg, 1) := by decide +kernel
theorem d_M_divisor_22 : decode b_M_divisor 22 = .ok (.goto 4, 3) := by decide +kernel
theorem d_M_divisor_25 : decode b_M_divisor 25 = .ok (.lload_n 2, 1) := by decide +kernel
theorem d_M_divisor_26 : decode b_M_divisor 26 = .ok (.lstore 6, 2) := by decide +kernel
theorem d_M_divisor_28 : decode b_M_divisor 28 = .ok (.iconst 0, 1) := by decide +kernel
theorem d_M_divisor_29 : decode b_M_divisor 29 = .ok (.istore 8, 2) := by decide +kernel
theorem d_M_divisor_31 : decode b_M_divisor 31 = .ok (.iload 8, 2) := by decide +kernel
theorem d_M_divisor_33 : decode b_M_divisor 33 = .ok (.ldc 183, 2) := by decide +kernel
theorem d_M_divisor_35 : decode b_M_divisor 35 = .ok (.if_icmp .ge 31, 3) := by decide +kernel
theorem d_M_divisor_38 : decode b_M_divisor 38 = .ok (.lload 6, 2) := by decide +kernel
theorem d_M_divisor_40 : decode b_M_divisor 40 = .ok (.lconst 0, 1) := by decide +kernel
theorem d_M_divisor_41 : decode b_M_divisor 41 = .ok (.lcmp, 1) := by decide +kernel
theorem d_M_divisor_42 : decode b_M_divisor 42 = .ok (.ifCond .eq 24, 3) := by decide +kernel
theorem d_M_divisor_45 : decode b_M_divisor 45 = .ok (.lload 4, 2) := by decide +kernel
theorem d_M_divisor_47 : decode b_M_divisor 47 = .ok (.lload 6, 2) := by decide +kernel
theorem d_M_divisor_49 : decode b_M_divisor 49 = .ok (.lrem, 1) := by decide +kernel
theorem d_M_divisor_50 : decode b_M_divisor 50 = .ok (.lstore 9, 2) := by decide +kernel
theorem d_M_divisor_52 : decode b_M_divisor 52 = .ok (.lload 6, 2) := by decide +kernel
theorem d_M_divisor_54 : decode b_M_divisor 54 = .ok (.lstore 4, 2) := by decide +kernel
theorem d_M_divisor_56 : decode b_M_divisor 56 = .ok (.lload 9, 2) := by decide +kernel
theorem d_M_divisor_58 : decode b_M_divisor 58 = .ok (.lstore 6, 2) := by decide +kernel
theorem d_M_divisor_60 : decode b_M_divisor 60 = .ok (.iinc 8 1, 3) := by decide +kernel
theorem d_M_divisor_63 : decode b_M_divisor 63 = .ok (.goto (-32), 3) := by decide +kernel
theorem d_M_divisor_66 : decode b_M_divisor 66 = .ok (.lload 4, 2) := by decide +kernel
theorem d_M_divisor_68 : decode b_M_divisor 68 = .ok (.lreturn, 1) := by decide +kernel
theorem d_M_clear_0 : decode b_M_clear 0 = .ok (.aload_n 0, 1) := by decide +kernel
theorem d_M_clear_1 : decode b_M_clear 1 = .ok (.iconst 0, 1) := by decide +kernel
theorem d_M_clear_2 : decode b_M_clear 2 = .ok (.putfield 90, 3) := by decide +kernel
theorem d_M_clear_5 : decode b_M_clear 5 = .ok (.aload_n 0, 1) := by decide +kernel
theorem d_M_clear_6 : decode b_M_clear 6 = .ok (.invokevirtual 184, 3) := by decide +kernel
theorem d_M_clear_9 : decode b_M_clear 9 = .ok (.ifCond .ne 6, 3) := by decide +kernel
theorem d_M_clear_12 : decode b_M_clear 12 = .ok (.ldc 85, 2) := by decide +kernel
theorem d_M_clear_14 : decode b_M_clear 14 = .ok (.ireturn, 1) := by decide +kernel
theorem d_M_clear_15 : decode b_M_clear 15 = .ok (.aload_n 0, 1) := by decide +kernel
theorem d_M_clear_16 : decode b_M_clear 16 = .ok (.iconst (-1), 1) := by decide +kernel
theorem d_M_clear_17 : decode b_M_clear 17 = .ok (.invokevirtual 187, 3) := by decide +kernel
theorem d_M_clear_20 : decode b_M_clear 20 = .ok (.aload_n 0, 1) := by decide +kernel
theorem d_M_clear_21 : decode b_M_clear 21 = .ok (.iconst 1, 1) := by decide +kernel
theorem d_M_clear_22 : decode b_M_clear 22 = .ok (.putfield 90, 3) := by decide +kernel
theorem d_M_clear_25 : decode b_M_clear 25 = .ok (.iconst 0, 1) := by decide +kernel
theorem d_M_clear_26 : decode b_M_clear 26 = .ok (.istore_n 1, 1) := by decide +kernel
theorem d_M_clear_27 : decode b_M_clear 27 = .ok (.iload_n 1, 1) := by decide +kernel
theorem d_M_clear_28 : decode b_M_clear 28 = .ok (.iconst 4, 1) := by decide +kernel
theorem d_M_clear_29 : decode b_M_clear 29 = .ok (.if_icmp .ge 16, 3) := by decide +kernel
theorem d_M_clear_32 : decode b_M_clear 32 = .ok (.aload_n 0, 1) := by decide +kernel
theorem d_M_clear_33 : decode b_M_clear 33 = .ok (.getfield 72, 3) := by decide +kernel
theorem d_M_clear_36 : decode b_M_clear 36 = .ok (.iload_n 1, 1) := by decide +kernel
theorem d_M_clear_37 : decode b_M_clear 37 = .ok (.iconst 0, 1) := by decide +kernel
theorem d_M_clear_38 : decode b_M_clear 38 = .ok (.bastore, 1) := by decide +kernel
theorem d_M_clear_39 : decode b_M_clear 39 = .ok (.iinc 1 1, 3) := by decide +kernel
theorem d_M_clear_42 : decode b_M_clear 42 = .ok (.goto (-15), 3) := by decide +kernel
theorem d_M_clear_45 : decode b_M_clear 45 = .ok (.aload_n 0, 1) := by decide +kernel
theorem d_M_clear_46 : decode b_M_clear 46 = .ok (.getfield 150, 3) := by decide +kernel
theorem d_M_clear_49 : decode b_M_clear 49 = .ok (.lstore_n 1, 1) := by decide +kernel
theorem d_M_clear_50 : decode b_M_clear 50 = .ok (.iconst 0, 1) := by decide +kernel
theorem d_M_clear_51 : decode b_M_clear 51 = .ok (.istore_n 3, 1) := by decide +kernel
theorem d_M_clear_52 : decode b_M_clear 52 = .ok (.iload_n 3, 1) := by decide +kernel
theorem d_M_clear_53 : decode b_M_clear 53 = .ok (.aload_n 0, 1) := by decide +kernel
theorem d_M_clear_54 : decode b_M_clear 54 = .ok (.getfield 94, 3) := by decide +kernel
theorem d_M_clear_57 : decode b_M_clear 57 = .ok (.if_icmp .ge 20, 3) := by decide +kernel
theorem d_M_clear_60 : decode b_M_clear 60 = .ok (.lload_n 1, 1) := by decide +kernel
theorem d_M_clear_61 : decode b_M_clear 61 = .ok (.aload_n 0, 1) := by decide +kernel
theorem d_M_clear_62 : decode b_M_clear 62 = .ok (.getfield 63, 3) := by decide +kernel
theorem d_M_clear_65 : decode b_M_clear 65 = .ok (.iload_n 3, 1) := by decide +kernel
theorem d_M_clear_66 : decode b_M_clear 66 = .ok (.laload, 1) := by decide +kernel
theorem d_M_clear_67 : decode b_M_clear 67 = .ok (.invokestatic 190, 3) := by decide +kernel
theorem d_M_clear_70 : decode b_M_clear 70 = .ok (.lstore_n 1, 1) := by decide +kernel
theorem d_M_clear_71 : decode b_M_clear 71 = .ok (.iinc 3 1, 3) := by decide +kernel
theorem d_M_clear_74 : decode b_M_clear 74 = .ok (.goto (-22), 3) := by decide +kernel
theorem d_M_clear_77 : decode b_M_clear 77 = .ok (.iconst 0, 1) := by decide +kernel
theorem d_M_clear_78 : decode b_M_clear 78 = .ok (.istore_n 3, 1) := by decide +kernel
theorem d_M_clear_79 : decode b_M_clear 79 = .ok (.iload_n 3, 1) := by decide +kernel
theorem d_M_clear_80 : decode b_M_clear 80 = .ok (.aload_n 0, 1) := by decide +kernel
theorem d_M_clear_81 : decode b_M_clear 81 = .ok (.getfield 86, 3) := by decide +kernel
theorem d_M_clear_84 : decode b_M_clear 84 = .ok (.if_icmp .ge 57, 3) := by decide +kernel
theorem d_M_clear_87 : decode b_M_clear 87 = .ok (.aload_n 0, 1) := by decide +kernel
theorem d_M_clear_88 : decode b_M_clear 88 = .ok (.getfield 69, 3) := by decide +kernel
theorem d_M_clear_91 : decode b_M_clear 91 = .ok (.iload_n 3, 1) := by decide +kernel
theorem d_M_clear_92 : decode b_M_clear 92 = .ok (.aload_n 0, 1) := by decide +kernel
theorem d_M_clear_93 : decode b_M_clear 93 = .ok (.getfield 16, 3) := by decide +kernel
theorem d_M_clear_96 : decode b_M_clear 96 = .ok (.iload_n 3, 1) := by decide +kernel
theorem d_M_clear_97 : decode b_M_clear 97 = .ok (.iaload, 1) := by decide +kernel
theorem d_M_clear_98 : decode b_M_clear 98 = .ok (.i2l, 1) := by decide +kernel
theorem d_M_clear_99 : decode b_M_clear 99 = .ok (.aload_n 0, 1) := by decide +kernel
theorem d_M_clear_100 : decode b_M_clear 100 = .ok (.getfield 60, 3) := by decide +kernel
theorem d_M_clear_103 : decode b_M_clear 103 = .ok (.aload_n 0, 1) := by decide +kernel
theorem d_M_clear_104 : decode b_M_clear 104 = .ok (.getfield 7, 3) := by decide +kernel
theorem d_M_clear_107 : decode b_M_clear 107 = .ok (.iload_n 3, 1) := by decide +kernel
theorem d_M_clear_108 : decode b_M_clear 108 = .ok (.iaload, 1) := by decide +kernel
theorem d_M_clear_109 : decode b_M_clear 109 = .ok (.laload, 1) := by decide +kernel
theorem d_M_clear_110 : decode b_M_clear 110 = .ok (.aload_n 0, 1) := by decide +kernel
theorem d_M_clear_111 : decode b_M_clear 111 = .ok (.getfield 60, 3) := by decide +kernel
theorem d_M_clear_114 : decode b_M_clear 114 = .ok (.aload_n 0, 1) := by decide +kernel
theorem d_M_clear_115 : decode b_M_clear 115 = .ok (.getfield 13, 3) := by decide +kernel
theorem d_M_clear_118 : decode b_M_clear 118 = .ok (.iload_n 3, 1) := by decide +kernel
theorem d_M_clear_119 : decode b_M_clear 119 = .ok (.iaload, 1) := by decide +kernel
theorem d_M_clear_120 : decode b_M_clear 120 = .ok (.laload, 1) := by decide +kernel
theorem d_M_clear_121 : decode b_M_clear 121 = .ok (.lsub, 1) := by decide +kernel
theorem d_M_clear_122 : decode b_M_clear 122 = .ok (.lmul, 1) := by decide +kernel
theorem d_M_clear_123 : decode b_M_clear 123 = .ok (.lastore, 1) := by decide +kernel
theorem d_M_clear_124 : decode b_M_clear 124 = .ok (.lload_n 1, 1) := by decide +kernel
theorem d_M_clear_125 : decode b_M_clear 125 = .ok (.aload_n 0, 1) := by decide +kernel
theorem d_M_clear_126 : decode b_M_clear 126 = .ok (.getfield 69, 3) := by decide +kernel
theorem d_M_clear_129 : decode b_M_clear 129 = .ok (.iload_n 3, 1) := by decide +kernel
theorem d_M_clear_130 : decode b_M_clear 130 = .ok (.laload, 1) := by decide +kernel
theorem d_M_clear_131 : decode b_M_clear 131 = .ok (.invokestatic 190, 3) := by decide +kernel
theorem d_M_clear_134 : decode b_M_clear 134 = .ok (.lstore_n 1, 1) := by decide +kernel
theorem d_M_clear_135 : decode b_M_clear 135 = .ok (.iinc 3 1, 3) := by decide +kernel
theorem d_M_clear_138 : decode b_M_clear 138 = .ok (.goto (-59), 3) := by decide +kernel
theorem d_M_clear_141 : decode b_M_clear 141 = .ok (.aload_n 0, 1) := by decide +kernel
theorem d_M_clear_142 : decode b_M_clear 142 = .ok (.aload_n 0, 1) := by decide +kernel
theorem d_M_clear_143 : decode b_M_clear 143 = .ok (.getfield 150, 3) := by decide +kernel
theorem d_M_clear_146 : decode b_M_clear 146 = .ok (.lload_n 1, 1) := by decide +kernel
theorem d_M_clear_147 : decode b_M_clear 147 = .ok (.ldiv, 1) := by decide +kernel
theorem d_M_clear_148 : decode b_M_clear 148 = .ok (.putfield 194, 3) := by decide +kernel
theorem d_M_clear_151 : decode b_M_clear 151 = .ok (.iconst 0, 1) := by decide +kernel
theorem d_M_clear_152 : decode b_M_clear 152 = .ok (.istore_n 3, 1) := by decide +kernel
theorem d_M_clear_153 : decode b_M_clear 153 = .ok (.aload_n 0, 1) := by decide +kernel
theorem d_M_clear_154 : decode b_M_clear 154 = .ok (.lconst 0, 1) := by decide +kernel
theorem d_M_clear_155 : decode b_M_clear 155 = .ok (.putfield 197, 3) := by decide +kernel
theorem d_M_clear_158 : decode b_M_clear 158 = .ok (.iconst 0, 1) := by decide +kernel
theorem d_M_clear_159 : decode b_M_clear 159 = .ok (.istore 4, 2) := by decide +kernel
theorem d_M_clear_161 : decode b_M_clear 161 = .ok (.iload 4, 2) := by decide +kernel
theorem d_M_clear_163 : decode b_M_clear 163 = .ok (.aload_n 0, 1) := by decide +kernel
theorem d_M_clear_164 : decode b_M_clear 164 = .ok (.getfield 94, 3) := by decide +kernel
theorem d_M_clear_167 : decode b_M_clear 167 = .ok (.if_icmp .ge 104, 3) := by decide +kernel
theorem d_M_clear_170 : decode b_M_clear 170 = .ok (.aload_n 0, 1) := by decide +kernel
theorem d_M_clear_171 : decode b_M_clear 171 = .ok (.getfield 66, 3) := by decide +kernel
theorem d_M_clear_174 : decode b_M_clear 174 = .ok (.iload 4, 2) := by decide +kernel
theorem d_M_clear_176 : decode b_M_clear 176 = .ok (.aload_n 0, 1) := by decide +kernel
theorem d_M_clear_177 : decode b_M_clear 177 = .ok (.getfield 63, 3) := by decide +kernel
theorem d_M_clear_180 : decode b_M_clear 180 = .ok (.iload 4, 2) := by decide +kernel
theorem d_M_clear_182 : decode b_M_clear 182 = .ok (.laload, 1) := by decide +kernel
theorem d_M_clear_183 : decode b_M_clear 183 = .ok (.lload_n 1, 1) := by decide +kernel
theorem d_M_clear_184 : decode b_M_clear 184 = .ok (.ldiv, 1) := by decide +kernel
theorem d_M_clear_185 : decode b_M_clear 185 = .ok (.lastore, 1) := by decide +kernel
theorem d_M_clear_186 : decode b_M_clear 186 = .ok (.aload_n 0, 1) := by decide +kernel
theorem d_M_clear_187 : decode b_M_clear 187 = .ok (.getfield 66, 3) := by decide +kernel
theorem d_M_clear_190 : decode b_M_clear 190 = .ok (.iload 4, 2) := by decide +kernel
theorem d_M_clear_192 : decode b_M_clear 192 = .ok (.laload, 1) := by decide +kernel
theorem d_M_clear_193 : decode b_M_clear 193 = .ok (.lconst 0, 1) := by decide +kernel
theorem d_M_clear_194 : decode b_M_clear 194 = .ok (.lcmp, 1) := by decide +kernel
theorem d_M_clear_195 : decode b_M_clear 195 = .ok (.ifCond .le 9, 3) := by decide +kernel
theorem d_M_clear_198 : decode b_M_clear 198 = .ok (.iload_n 3, 1) := by decide +kernel
theorem d_M_clear_199 : decode b_M_clear 199 = .ok (.iconst 1, 1) := by decide +kernel
theorem d_M_clear_200 : decode b_M_clear 200 = .ok (.iadd, 1) := by decide +kernel
theorem d_M_clear_201 : decode b_M_clear 201 = .ok (.goto 4, 3) := by decide +kernel
theorem d_M_clear_204 : decode b_M_clear 204 = .ok (.iload_n 3, 1) := by decide +kernel
theorem d_M_clear_205 : decode b_M_clear 205 = .ok (.istore_n 3, 1) := by decide +kernel
theorem d_M_clear_206 : decode b_M_clear 206 = .ok (.aload_n 0, 1) := by decide +kernel
theorem d_M_clear_207 : decode b_M_clear 207 = .ok (.aload_n 0, 1) := by decide +kernel
theorem d_M_clear_208 : decode b_M_clear 208 = .ok (.getfield 22, 3) := by decide +kernel
theorem d_M_clear_211 : decode b_M_clear 211 = .ok (.iload 4, 2) := by decide +kernel
theorem d_M_clear_213 : decode b_M_clear 213 = .ok (.baload, 1) := by decide +kernel
theorem d_M_clear_214 : decode b_M_clear 214 = .ok (.ifCond .eq 27, 3) := by decide +kernel
theorem d_M_clear_217 : decode b_M_clear 217 = .ok (.aload_n 0, 1) := by decide +kernel
theorem d_M_clear_218 : decode b_M_clear 218 = .ok (.getfield 197, 3) := by decide +kernel
theorem d_M_clear_221 : decode b_M_clear 221 = .ok (.aload_n 0, 1) := by decide +kernel
theorem d_M_clear_222 : decode b_M_clear 222 = .ok (.getfield 29, 3) := by decide +kernel
theorem d_M_clear_225 : decode b_M_clear 225 = .ok (.iload 4, 2) := by decide +kernel
theorem d_M_clear_227 : decode b_M_clear 227 = .ok (.iaload, 1) := by decide +kernel
theorem d_M_clear_228 : decode b_M_clear 228 = .ok (.i2l, 1) := by decide +kernel
theorem d_M_clear_229 : decode b_M_clear 229 = .ok (.aload_n 0, 1) := by decide +kernel
theorem d_M_clear_230 : decode b_M_clear 230 = .ok (.getfield 66, 3) := by decide +kernel
theorem d_M_clear_233 : decode b_M_clear 233 = .ok (.iload 4, 2) := by decide +kernel
theorem d_M_clear_235 : decode b_M_clear 235 = .ok (.laload, 1) := by decide +kernel
theorem d_M_clear_236 : decode b_M_clear 236 = .ok (.lmul, 1) := by decide +kernel
theorem d_M_clear_237 : decode b_M_clear 237 = .ok (.ladd, 1) := by decide +kernel
theorem d_M_clear_238 : decode b_M_clear 238 = .ok (.goto 24, 3) := by decide +kernel
theorem d_M_clear_241 : decode b_M_clear 241 = .ok (.aload_n 0, 1) := by decide +kernel
theorem d_M_clear_242 : decode b_M_clear 242 = .ok (.getfield 197, 3) := by decide +kernel
theorem d_M_clear_245 : decode b_M_clear 245 = .ok (.aload_n 0, 1) := by decide +kernel
theorem d_M_clear_246 : decode b_M_clear 246 = .ok (.getfield 29, 3) := by decide +kernel
theorem d_M_clear_249 : decode b_M_clear 249 = .ok (.iload 4, 2) := by decide +kernel
theorem d_M_clear_251 : decode b_M_clear 251 = .ok (.iaload, 1) := by decide +kernel
theorem d_M_clear_252 : decode b_M_clear 252 = .ok (.i2l, 1) := by decide +kernel
theorem d_M_clear_253 : decode b_M_clear 253 = .ok (.aload_n 0, 1) := by decide +kernel
theorem d_M_clear_254 : decode b_M_clear 254 = .ok (.getfield 66, 3) := by decide +kernel
theorem d_M_clear_257 : decode b_M_clear 257 = .ok (.iload 4, 2) := by decide +kernel
theorem d_M_clear_259 : decode b_M_clear 259 = .ok (.laload, 1) := by decide +kernel
theorem d_M_clear_260 : decode b_M_clear 260 = .ok (.lmul, 1) := by decide +kernel
theorem d_M_clear_261 : decode b_M_clear 261 = .ok (.lsub, 1) := by decide +kernel
theorem d_M_clear_262 : decode b_M_clear 262 = .ok (.putfield 197, 3) := by decide +kernel
theorem d_M_clear_265 : decode b_M_clear 265 = .ok (.iinc 4 1, 3) := by decide +kernel
theorem d_M_clear_268 : decode b_M_clear 268 = .ok (.goto (-107), 3) := by decide +kernel
theorem d_M_clear_271 : decode b_M_clear 271 = .ok (.iconst 0, 1) := by decide +kernel
theorem d_M_clear_272 : decode b_M_clear 272 = .ok (.istore 4, 2) := by decide +kernel
theorem d_M_clear_274 : decode b_M_clear 274 = .ok (.iload 4, 2) := by decide +kernel
theorem d_M_clear_276 : decode b_M_clear 276 = .ok (.aload_n 0, 1) := by decide +kernel
theorem d_M_clear_277 : decode b_M_clear 277 = .ok (.getfield 86, 3) := by decide +kernel
theorem d_M_clear_280 : decode b_M_clear 280 = .ok (.if_icmp .ge 25, 3) := by decide +kernel
theorem d_M_clear_283 : decode b_M_clear 283 = .ok (.aload_n 0, 1) := by decide +kernel
theorem d_M_clear_284 : decode b_M_clear 284 = .ok (.getfield 69, 3) := by decide +kernel
theorem d_M_clear_287 : decode b_M_clear 287 = .ok (.iload 4, 2) := by decide +kernel
theorem d_M_clear_289 : decode b_M_clear 289 = .ok (.aload_n 0, 1) := by decide +kernel
theorem d_M_clear_290 : decode b_M_clear 290 = .ok (.getfield 69, 3) := by decide +kernel
theorem d_M_clear_293 : decode b_M_clear 293 = .ok (.iload 4, 2) := by decide +kernel
theorem d_M_clear_295 : decode b_M_clear 295 = .ok (.laload, 1) := by decide +kernel
theorem d_M_clear_296 : decode b_M_clear 296 = .ok (.lload_n 1, 1) := by decide +kernel
theorem d_M_clear_297 : decode b_M_clear 297 = .ok (.ldiv, 1) := by decide +kernel
theorem d_M_clear_298 : decode b_M_clear 298 = .ok (.lastore, 1) := by decide +kernel
theorem d_M_clear_299 : decode b_M_clear 299 = .ok (.iinc 4 1, 3) := by decide +kernel
theorem d_M_clear_302 : decode b_M_clear 302 = .ok (.goto (-28), 3) := by decide +kernel
theorem d_M_clear_305 : decode b_M_clear 305 = .ok (.iload_n 3, 1) := by decide +kernel
theorem d_M_clear_306 : decode b_M_clear 306 = .ok (.ireturn, 1) := by decide +kernel
theorem d_M_steps_0 : decode b_M_steps 0 = .ok (.aload_n 0, 1) := by decide +kernel
theorem d_M_steps_1 : decode b_M_steps 1 = .ok (.getfield 94, 3) := by decide +kernel
theorem d_M_steps_4 : decode b_M_steps 4 = .ok (.ireturn, 1) := by decide +kernel
theorem d_M_lines_0 : decode b_M_lines 0 = .ok (.aload_n 0, 1) := by decide +kernel
theorem d_M_lines_1 : decode b_M_lines 1 = .ok (.getfield 86, 3) := by decide +kernel
theorem d_M_lines_4 : decode b_M_lines 4 = .ok (.ireturn, 1) := by decide +kernel
theorem d_M_scale_0 : decode b_M_scale 0 = .ok (.aload_n 0, 1) := by decide +kernel
theorem d_M_scale_1 : decode b_M_scale 1 = .ok (.getfield 90, 3) := by decide +kernel
theorem d_M_scale_4 : decode b_M_scale 4 = .ok (.ifCond .eq 11, 3) := by decide +kernel
theorem d_M_scale_7 : decode b_M_scale 7 = .ok (.aload_n 0, 1) := by decide +kernel
theorem d_M_scale_8 : decode b_M_scale 8 = .ok (.getfield 194, 3) := by decide +kernel
theorem d_M_scale_11 : decode b_M_scale 11 = .ok (.l2i, 1) := by decide +kernel
theorem d_M_scale_12 : decode b_M_scale 12 = .ok (.goto 4, 3) := by decide +kernel
theorem d_M_scale_15 : decode b_M_scale 15 = .ok (.iconst 0, 1) := by decide +kernel
theorem d_M_scale_16 : decode b_M_scale 16 = .ok (.ireturn, 1) := by decide +kernel
theorem d_M_accepted_0 : decode b_M_accepted 0 = .ok (.aload_n 0, 1) := by decide +kernel
theorem d_M_accepted_1 : decode b_M_accepted 1 = .ok (.getfield 90, 3) := by decide +kernel
theorem d_M_accepted_4 : decode b_M_accepted 4 = .ok (.ifCond .eq 27, 3) := by decide +kernel
theorem d_M_accepted_7 : decode b_M_accepted 7 = .ok (.iload_n 1, 1) := by decide +kernel
theorem d_M_accepted_8 : decode b_M_accepted 8 = .ok (.iconst 0, 1) := by decide +kernel
theorem d_M_accepted_9 : decode b_M_accepted 9 = .ok (.aload_n 0, 1) := by decide +kernel
theorem d_M_accepted_10 : decode b_M_accepted 10 = .ok (.getfield 94, 3) := by decide +kernel
theorem d_M_accepted_13 : decode b_M_accepted 13 = .ok (.iconst 1, 1) := by decide +kernel
theorem d_M_accepted_14 : decode b_M_accepted 14 = .ok (.isub, 1) := by decide +kernel
theorem d_M_accepted_15 : decode b_M_accepted 15 = .ok (.invokestatic 81, 3) := by decide +kernel
theorem d_M_accepted_18 : decode b_M_accepted 18 = .ok (.ifCond .eq 13, 3) := by decide +kernel
theorem d_M_accepted_21 : decode b_M_accepted 21 = .ok (.aload_n 0, 1) := by decide +kernel
theorem d_M_accepted_22 : decode b_M_accepted 22 = .ok (.getfield 66, 3) := by decide +kernel
theorem d_M_accepted_25 : decode b_M_accepted 25 = .ok (.iload_n 1, 1) := by decide +kernel
theorem d_M_accepted_26 : decode b_M_accepted 26 = .ok (.laload, 1) := by decide +kernel
theorem d_M_accepted_27 : decode b_M_accepted 27 = .ok (.l2i, 1) := by decide +kernel
theorem d_M_accepted_28 : decode b_M_accepted 28 = .ok (.goto 5, 3) := by decide +kernel
theorem d_M_accepted_31 : decode b_M_accepted 31 = .ok (.ldc 85, 2) := by decide +kernel
theorem d_M_accepted_33 : decode b_M_accepted 33 = .ok (.ireturn, 1) := by decide +kernel
theorem d_M_flow_0 : decode b_M_flow 0 = .ok (.aload_n 0, 1) := by decide +kernel
theorem d_M_flow_1 : decode b_M_flow 1 = .ok (.getfield 90, 3) := by decide +kernel
theorem d_M_flow_4 : decode b_M_flow 4 = .ok (.ifCond .eq 27, 3) := by decide +kernel
theorem d_M_flow_7 : decode b_M_flow 7 = .ok (.iload_n 1, 1) := by decide +kernel
theorem d_M_flow_8 : decode b_M_flow 8 = .ok (.iconst 0, 1) := by decide +kernel
theorem d_M_flow_9 : decode b_M_flow 9 = .ok (.aload_n 0, 1) := by decide +kernel
theorem d_M_flow_10 : decode b_M_flow 10 = .ok (.getfield 86, 3) := by decide +kernel
theorem d_M_flow_13 : decode b_M_flow 13 = .ok (.iconst 1, 1) := by decide +kernel
theorem d_M_flow_14 : decode b_M_flow 14 = .ok (.isub, 1) := by decide +kernel
theorem d_M_flow_15 : decode b_M_flow 15 = .ok (.invokestatic 81, 3) := by decide +kernel
theorem d_M_flow_18 : decode b_M_flow 18 = .ok (.ifCond .eq 13, 3) := by decide +kernel
theorem d_M_flow_21 : decode b_M_flow 21 = .ok (.aload_n 0, 1) := by decide +kernel
theorem d_M_flow_22 : decode b_M_flow 22 = .ok (.getfield 69, 3) := by decide +kernel
theorem d_M_flow_25 : decode b_M_flow 25 = .ok (.iload_n 1, 1) := by decide +kernel
theorem d_M_flow_26 : decode b_M_flow 26 = .ok (.laload, 1) := by decide +kernel
theorem d_M_flow_27 : decode b_M_flow 27 = .ok (.l2i, 1) := by decide +kernel
theorem d_M_flow_28 : decode b_M_flow 28 = .ok (.goto 5, 3) := by decide +kernel
theorem d_M_flow_31 : decode b_M_flow 31 = .ok (.ldc 85, 2) := by decide +kernel
theorem d_M_flow_33 : decode b_M_flow 33 = .ok (.ireturn, 1) := by decide +kernel
theorem d_M_tight_0 : decode b_M_tight 0 = .ok (.iconst 0, 1) := by decide +kernel
theorem d_M_tight_1 : decode b_M_tight 1 = .ok (.istore_n 1, 1) := by decide +kernel
theorem d_M_tight_2 : decode b_M_tight 2 = .ok (.iconst 0, 1) := by decide +kernel
theorem d_M_tight_3 : decode b_M_tight 3 = .ok (.istore_n 2, 1) := by decide +kernel
theorem d_M_tight_4 : decode b_M_tight 4 = .ok (.iload_n 2, 1) := by decide +kernel
theorem d_M_tight_5 : decode b_M_tight 5 = .ok (.aload_n 0, 1) := by decide +kernel
theorem d_M_tight_6 : decode b_M_tight 6 = .ok (.getfield 86, 3) := by decide +kernel
theorem d_M_tight_9 : decode b_M_tight 9 = .ok (.if_icmp .ge 55, 3) := by decide +kernel
theorem d_M_tight_12 : decode b_M_tight 12 = .ok (.aload_n 0, 1) := by decide +kernel
theorem d_M_tight_13 : decode b_M_tight 13 = .ok (.getfield 19, 3) := by decide +kernel
theorem d_M_tight_16 : decode b_M_tight 16 = .ok (.iload_n 2, 1) := by decide +kernel
theorem d_M_tight_17 : decode b_M_tight 17 = .ok (.iaload, 1) := by decide +kernel
theorem d_M_tight_18 : decode b_M_tight 18 = .ok (.i2l, 1) := by decide +kernel
theorem d_M_tight_19 : decode b_M_tight 19 = .ok (.aload_n 0, 1) := by decide +kernel
theorem d_M_tight_20 : decode b_M_tight 20 = .ok (.getfield 194, 3) := by decide +kernel
theorem d_M_tight_23 : decode b_M_tight 23 = .ok (.lmul, 1) := by decide +kernel
theorem d_M_tight_24 : decode b_M_tight 24 = .ok (.lstore_n 3, 1) := by decide +kernel
theorem d_M_tight_25 : decode b_M_tight 25 = .ok (.aload_n 0, 1) := by decide +kernel
theorem d_M_tight_26 : decode b_M_tight 26 = .ok (.getfield 69, 3) := by decide +kernel
theorem d_M_tight_29 : decode b_M_tight 29 = .ok (.iload_n 2, 1) := by decide +kernel
theorem d_M_tight_30 : decode b_M_tight 30 = .ok (.laload, 1) := by decide +kernel
theorem d_M_tight_31 : decode b_M_tight 31 = .ok (.lload_n 3, 1) := by decide +kernel
theorem d_M_tight_32 : decode b_M_tight 32 = .ok (.lcmp, 1) := by decide +kernel
theorem d_M_tight_33 : decode b_M_tight 33 = .ok (.ifCond .eq 15, 3) := by decide +kernel
theorem d_M_tight_36 : decode b_M_tight 36 = .ok (.aload_n 0, 1) := by decide +kernel
theorem d_M_tight_37 : decode b_M_tight 37 = .ok (.getfield 69, 3) := by decide +kernel
theorem d_M_tight_40 : decode b_M_tight 40 = .ok (.iload_n 2, 1) := by decide +kernel
theorem d_M_tight_41 : decode b_M_tight 41 = .ok (.laload, 1) := by decide +kernel
theorem d_M_tight_42 : decode b_M_tight 42 = .ok (.lload_n 3, 1) := by decide +kernel
theorem d_M_tight_43 : decode b_M_tight 43 = .ok (.lneg, 1) := by decide +kernel
theorem d_M_tight_44 : decode b_M_tight 44 = .ok (.lcmp, 1) := by decide +kernel
theorem d_M_tight_45 : decode b_M_tight 45 = .ok (.ifCond .ne 11, 3) := by decide +kernel
theorem d_M_tight_48 : decode b_M_tight 48 = .ok (.iload_n 1, 1) := by decide +kernel
theorem d_M_tight_49 : decode b_M_tight 49 = .ok (.iconst 1, 1) := by decide +kernel
theorem d_M_tight_50 : decode b_M_tight 50 = .ok (.iload_n 2, 1) := by decide +kernel
theorem d_M_tight_51 : decode b_M_tight 51 = .ok (.ishl, 1) := by decide +kernel
theorem d_M_tight_52 : decode b_M_tight 52 = .ok (.iadd, 1) := by decide +kernel
theorem d_M_tight_53 : decode b_M_tight 53 = .ok (.goto 4, 3) := by decide +kernel
theorem d_M_tight_56 : decode b_M_tight 56 = .ok (.iload_n 1, 1) := by decide +kernel
theorem d_M_tight_57 : decode b_M_tight 57 = .ok (.istore_n 1, 1) := by decide +kernel
theorem d_M_tight_58 : decode b_M_tight 58 = .ok (.iinc 2 1, 3) := by decide +kernel
theorem d_M_tight_61 : decode b_M_tight 61 = .ok (.goto (-57), 3) := by decide +kernel
theorem d_M_tight_64 : decode b_M_tight 64 = .ok (.aload_n 0, 1) := by decide +kernel
theorem d_M_tight_65 : decode b_M_tight 65 = .ok (.getfield 90, 3) := by decide +kernel
theorem d_M_tight_68 : decode b_M_tight 68 = .ok (.ifCond .eq 7, 3) := by decide +kernel
theorem d_M_tight_71 : decode b_M_tight 71 = .ok (.iload_n 1, 1) := by decide +kernel
theorem d_M_tight_72 : decode b_M_tight 72 = .ok (.goto 5, 3) := by decide +kernel
theorem d_M_tight_75 : decode b_M_tight 75 = .ok (.ldc 85, 2) := by decide +kernel
theorem d_M_tight_77 : decode b_M_tight 77 = .ok (.ireturn, 1) := by decide +kernel
theorem d_M_welfare_0 : decode b_M_welfare 0 = .ok (.aload_n 0, 1) := by decide +kernel
theorem d_M_welfare_1 : decode b_M_welfare 1 = .ok (.getfield 90, 3) := by decide +kernel
theorem d_M_welfare_4 : decode b_M_welfare 4 = .ok (.ifCond .eq 10, 3) := by decide +kernel
theorem d_M_welfare_7 : decode b_M_welfare 7 = .ok (.aload_n 0, 1) := by decide +kernel
theorem d_M_welfare_8 : decode b_M_welfare 8 = .ok (.getfield 197, 3) := by decide +kernel
theorem d_M_welfare_11 : decode b_M_welfare 11 = .ok (.goto 6, 3) := by decide +kernel
theorem d_M_welfare_14 : decode b_M_welfare 14 = .ok (.ldc2_w 128, 3) := by decide +kernel
theorem d_M_welfare_17 : decode b_M_welfare 17 = .ok (.lreturn, 1) := by decide +kernel
theorem d_M_extra_0 : decode b_M_extra 0 = .ok (.aload_n 0, 1) := by decide +kernel
theorem d_M_extra_1 : decode b_M_extra 1 = .ok (.getfield 90, 3) := by decide +kernel
theorem d_M_extra_4 : decode b_M_extra 4 = .ok (.ifCond .eq 12, 3) := by decide +kernel
theorem d_M_extra_7 : decode b_M_extra 7 = .ok (.iload_n 1, 1) := by decide +kernel
theorem d_M_extra_8 : decode b_M_extra 8 = .ok (.iconst 0, 1) := by decide +kernel
theorem d_M_extra_9 : decode b_M_extra 9 = .ok (.iconst 3, 1) := by decide +kernel
theorem d_M_extra_10 : decode b_M_extra 10 = .ok (.invokestatic 81, 3) := by decide +kernel
theorem d_M_extra_13 : decode b_M_extra 13 = .ok (.ifCond .ne 5, 3) := by decide +kernel
theorem d_M_extra_16 : decode b_M_extra 16 = .ok (.iconst 0, 1) := by decide +kernel
theorem d_M_extra_17 : decode b_M_extra 17 = .ok (.ireturn, 1) := by decide +kernel
theorem d_M_extra_18 : decode b_M_extra 18 = .ok (.aload_n 0, 1) := by decide +kernel
theorem d_M_extra_19 : decode b_M_extra 19 = .ok (.getfield 72, 3) := by decide +kernel
theorem d_M_extra_22 : decode b_M_extra 22 = .ok (.iload_n 1, 1) := by decide +kernel
theorem d_M_extra_23 : decode b_M_extra 23 = .ok (.baload, 1) := by decide +kernel
theorem d_M_extra_24 : decode b_M_extra 24 = .ok (.ifCond .eq 5, 3) := by decide +kernel
theorem d_M_extra_27 : decode b_M_extra 27 = .ok (.iconst 1, 1) := by decide +kernel
theorem d_M_extra_28 : decode b_M_extra 28 = .ok (.ireturn, 1) := by decide +kernel
theorem d_M_extra_29 : decode b_M_extra 29 = .ok (.aload_n 0, 1) := by decide +kernel
theorem d_M_extra_30 : decode b_M_extra 30 = .ok (.getfield 72, 3) := by decide +kernel
theorem d_M_extra_33 : decode b_M_extra 33 = .ok (.iload_n 1, 1) := by decide +kernel
theorem d_M_extra_34 : decode b_M_extra 34 = .ok (.iconst 1, 1) := by decide +kernel
theorem d_M_extra_35 : decode b_M_extra 35 = .ok (.bastore, 1) := by decide +kernel
theorem d_M_extra_36 : decode b_M_extra 36 = .ok (.aload_n 0, 1) := by decide +kernel
theorem d_M_extra_37 : decode b_M_extra 37 = .ok (.getfield 75, 3) := by decide +kernel
theorem d_M_extra_40 : decode b_M_extra 40 = .ok (.iload_n 1, 1) := by decide +kernel
theorem d_M_extra_41 : decode b_M_extra 41 = .ok (.lconst 0, 1) := by decide +kernel
theorem d_M_extra_42 : decode b_M_extra 42 = .ok (.lastore, 1) := by decide +kernel
theorem d_M_extra_43 : decode b_M_extra 43 = .ok (.aload_n 0, 1) := by decide +kernel
theorem d_M_extra_44 : decode b_M_extra 44 = .ok (.getfield 78, 3) := by decide +kernel
theorem d_M_extra_47 : decode b_M_extra 47 = .ok (.iload_n 1, 1) := by decide +kernel
theorem d_M_extra_48 : decode b_M_extra 48 = .ok (.lconst 0, 1) := by decide +kernel
theorem d_M_extra_49 : decode b_M_extra 49 = .ok (.lastore, 1) := by decide +kernel
theorem d_M_extra_50 : decode b_M_extra 50 = .ok (.aload_n 0, 1) := by decide +kernel
theorem d_M_extra_51 : decode b_M_extra 51 = .ok (.iload_n 1, 1) := by decide +kernel
theorem d_M_extra_52 : decode b_M_extra 52 = .ok (.invokevirtual 187, 3) := by decide +kernel
theorem d_M_extra_55 : decode b_M_extra 55 = .ok (.aload_n 0, 1) := by decide +kernel
theorem d_M_extra_56 : decode b_M_extra 56 = .ok (.getfield 147, 3) := by decide +kernel
theorem d_M_extra_59 : decode b_M_extra 59 = .ok (.ifCond .eq 63, 3) := by decide +kernel
theorem d_M_extra_62 : decode b_M_extra 62 = .ok (.aload_n 0, 1) := by decide +kernel
theorem d_M_extra_63 : decode b_M_extra 63 = .ok (.getfield 197, 3) := by decide +kernel
theorem d_M_extra_66 : decode b_M_extra 66 = .ok (.aload_n 0, 1) := by decide +kernel
theorem d_M_extra_67 : decode b_M_extra 67 = .ok (.getfield 150, 3) := by decide +kernel
theorem d_M_extra_70 : decode b_M_extra 70 = .ok (.lmul, 1) := by decide +kernel
theorem d_M_extra_71 : decode b_M_extra 71 = .ok (.aload_n 0, 1) := by decide +kernel
theorem d_M_extra_72 : decode b_M_extra 72 = .ok (.getfield 153, 3) := by decide +kernel
theorem d_M_extra_75 : decode b_M_extra 75 = .ok (.aload_n 0, 1) := by decide +kernel
theorem d_M_extra_76 : decode b_M_extra 76 = .ok (.getfield 194, 3) := by decide +kernel
theorem d_M_extra_79 : decode b_M_extra 79 = .ok (.lmul, 1) := by decide +kernel
theorem d_M_extra_80 : decode b_M_extra 80 = .ok (.lsub, 1) := by decide +kernel
theorem d_M_extra_81 : decode b_M_extra 81 = .ok (.lstore_n 2, 1) := by decide +kernel
theorem d_M_extra_82 : decode b_M_extra 82 = .ok (.aload_n 0, 1) := by decide +kernel
theorem d_M_extra_83 : decode b_M_extra 83 = .ok (.getfield 194, 3) := by decide +kernel
theorem d_M_extra_86 : decode b_M_extra 86 = .ok (.aload_n 0, 1) := by decide +kernel
theorem d_M_extra_87 : decode b_M_extra 87 = .ok (.getfield 150, 3) := by decide +kernel
theorem d_M_extra_90 : decode b_M_extra 90 = .ok (.lmul, 1) := by decide +kernel
theorem d_M_extra_91 : decode b_M_extra 91 = .ok (.lstore 4, 2) := by decide +kernel
theorem d_M_extra_93 : decode b_M_extra 93 = .ok (.lload_n 2, 1) := by decide +kernel
theorem d_M_extra_94 : decode b_M_extra 94 = .ok (.lload 4, 2) := by decide +kernel
theorem d_M_extra_96 : decode b_M_extra 96 = .ok (.invokestatic 190, 3) := by decide +kernel
theorem d_M_extra_99 : decode b_M_extra 99 = .ok (.lstore 6, 2) := by decide +kernel
theorem d_M_extra_101 : decode b_M_extra 101 = .ok (.aload_n 0, 1) := by decide +kernel
theorem d_M_extra_102 : decode b_M_extra 102 = .ok (.getfield 75, 3) := by decide +kernel
theorem d_M_extra_105 : decode b_M_extra 105 = .ok (.iload_n 1, 1) := by decide +kernel
theorem d_M_extra_106 : decode b_M_extra 106 = .ok (.lload_n 2, 1) := by decide +kernel
theorem d_M_extra_107 : decode b_M_extra 107 = .ok (.lload 6, 2) := by decide +kernel
theorem d_M_extra_109 : decode b_M_extra 109 = .ok (.ldiv, 1) := by decide +kernel
theorem d_M_extra_110 : decode b_M_extra 110 = .ok (.lastore, 1) := by decide +kernel
theorem d_M_extra_111 : decode b_M_extra 111 = .ok (.aload_n 0, 1) := by decide +kernel
theorem d_M_extra_112 : decode b_M_extra 112 = .ok (.getfield 78, 3) := by decide +kernel
theorem d_M_extra_115 : decode b_M_extra 115 = .ok (.iload_n 1, 1) := by decide +kernel
theorem d_M_extra_116 : decode b_M_extra 116 = .ok (.lload 4, 2) := by decide +kernel
theorem d_M_extra_118 : decode b_M_extra 118 = .ok (.lload 6, 2) := by decide +kernel
theorem d_M_extra_120 : decode b_M_extra 120 = .ok (.ldiv, 1) := by decide +kernel
theorem d_M_extra_121 : decode b_M_extra 121 = .ok (.lastore, 1) := by decide +kernel
theorem d_M_extra_122 : decode b_M_extra 122 = .ok (.iconst 1, 1) := by decide +kernel
theorem d_M_extra_123 : decode b_M_extra 123 = .ok (.ireturn, 1) := by decide +kernel
theorem d_M_extraTop_0 : decode b_M_extraTop 0 = .ok (.aload_n 0, 1) := by decide +kernel
theorem d_M_extraTop_1 : decode b_M_extraTop 1 = .ok (.iload_n 1, 1) := by decide +kernel
theorem d_M_extraTop_2 : decode b_M_extraTop 2 = .ok (.invokevirtual 200, 3) := by decide +kernel
theorem d_M_extraTop_5 : decode b_M_extraTop 5 = .ok (.ifCond .eq 12, 3) := by decide +kernel
theorem d_M_extraTop_8 : decode b_M_extraTop 8 = .ok (.aload_n 0, 1) := by decide +kernel
theorem d_M_extraTop_9 : decode b_M_extraTop 9 = .ok (.getfield 75, 3) := by decide +kernel
theorem d_M_extraTop_12 : decode b_M_extraTop 12 = .ok (.iload_n 1, 1) := by decide +kernel
theorem d_M_extraTop_13 : decode b_M_extraTop 13 = .ok (.laload, 1) := by decide +kernel
theorem d_M_extraTop_14 : decode b_M_extraTop 14 = .ok (.goto 4, 3) := by decide +kernel
theorem d_M_extraTop_17 : decode b_M_extraTop 17 = .ok (.lconst 0, 1) := by decide +kernel
theorem d_M_extraTop_18 : decode b_M_extraTop 18 = .ok (.lreturn, 1) := by decide +kernel
theorem d_M_extraBottom_0 : decode b_M_extraBottom 0 = .ok (.aload_n 0, 1) := by decide +kernel
theorem d_M_extraBottom_1 : decode b_M_extraBottom 1 = .ok (.iload_n 1, 1) := by decide +kernel
theorem d_M_extraBottom_2 : decode b_M_extraBottom 2 = .ok (.invokevirtual 200, 3) := by decide +kernel
theorem d_M_extraBottom_5 : decode b_M_extraBottom 5 = .ok (.ifCond .eq 13, 3) := by decide +kernel
theorem d_M_extraBottom_8 : decode b_M_extraBottom 8 = .ok (.aload_n 0, 1) := by decide +kernel
theorem d_M_extraBottom_9 : decode b_M_extraBottom 9 = .ok (.getfield 78, 3) := by decide +kernel
theorem d_M_extraBottom_12 : decode b_M_extraBottom 12 = .ok (.iload_n 1, 1) := by decide +kernel
theorem d_M_extraBottom_13 : decode b_M_extraBottom 13 = .ok (.laload, 1) := by decide +kernel
theorem d_M_extraBottom_14 : decode b_M_extraBottom 14 = .ok (.l2i, 1) := by decide +kernel
theorem d_M_extraBottom_15 : decode b_M_extraBottom 15 = .ok (.goto 4, 3) := by decide +kernel
theorem d_M_extraBottom_18 : decode b_M_extraBottom 18 = .ok (.iconst 0, 1) := by decide +kernel
theorem d_M_extraBottom_19 : decode b_M_extraBottom 19 = .ok (.ireturn, 1) := by decide +kernel
theorem d_M_priceOf_0 : decode b_M_priceOf 0 = .ok (.iload_n 0, 1) := by decide +kernel
theorem d_M_priceOf_1 : decode b_M_priceOf 1 = .ok (.ifCond .ne 8, 3) := by decide +kernel
theorem d_M_priceOf_4 : decode b_M_priceOf 4 = .ok (.iload_n 1, 1) := by decide +kernel
theorem d_M_priceOf_5 : decode b_M_priceOf 5 = .ok (.i2l, 1) := by decide +kernel
theorem d_M_priceOf_6 : decode b_M_priceOf 6 = .ok (.goto 26, 3) := by decide +kernel
theorem d_M_priceOf_9 : decode b_M_priceOf 9 = .ok (.iload_n 0, 1) := by decide +kernel
theorem d_M_priceOf_10 : decode b_M_priceOf 10 = .ok (.iconst 1, 1) := by decide +kernel
theorem d_M_priceOf_11 : decode b_M_priceOf 11 = .ok (.if_icmp .ne 8, 3) := by decide +kernel
theorem d_M_priceOf_14 : decode b_M_priceOf 14 = .ok (.iload_n 2, 1) := by decide +kernel
theorem d_M_priceOf_15 : decode b_M_priceOf 15 = .ok (.i2l, 1) := by decide +kernel
theorem d_M_priceOf_16 : decode b_M_priceOf 16 = .ok (.goto 16, 3) := by decide +kernel
theorem d_M_priceOf_19 : decode b_M_priceOf 19 = .ok (.iload_n 0, 1) := by decide +kernel
theorem d_M_priceOf_20 : decode b_M_priceOf 20 = .ok (.iconst 2, 1) := by decide +kernel
theorem d_M_priceOf_21 : decode b_M_priceOf 21 = .ok (.if_icmp .ne 8, 3) := by decide +kernel
theorem d_M_priceOf_24 : decode b_M_priceOf 24 = .ok (.iload_n 3, 1) := by decide +kernel
theorem d_M_priceOf_25 : decode b_M_priceOf 25 = .ok (.i2l, 1) := by decide +kernel
theorem d_M_priceOf_26 : decode b_M_priceOf 26 = .ok (.goto 6, 3) := by decide +kernel
theorem d_M_priceOf_29 : decode b_M_priceOf 29 = .ok (.iload 4, 2) := by decide +kernel
theorem d_M_priceOf_31 : decode b_M_priceOf 31 = .ok (.i2l, 1) := by decide +kernel
theorem d_M_priceOf_32 : decode b_M_priceOf 32 = .ok (.lreturn, 1) := by decide +kernel
theorem d_M_bad_0 : decode b_M_bad 0 = .ok (.aload_n 0, 1) := by decide +kernel
theorem d_M_bad_1 : decode b_M_bad 1 = .ok (.getfield 90, 3) := by decide +kernel
theorem d_M_bad_4 : decode b_M_bad 4 = .ok (.ifCond .eq 56, 3) := by decide +kernel
theorem d_M_bad_7 : decode b_M_bad 7 = .ok (.iload_n 1, 1) := by decide +kernel
theorem d_M_bad_8 : decode b_M_bad 8 = .ok (.sipush (-2000), 3) := by decide +kernel
theorem d_M_bad_11 : decode b_M_bad 11 = .ok (.sipush 2000, 3) := by decide +kernel
theorem d_M_bad_14 : decode b_M_bad 14 = .ok (.invokestatic 81, 3) := by decide +kernel
theorem d_M_bad_17 : decode b_M_bad 17 = .ok (.ifCond .eq 43, 3) := by decide +kernel
theorem d_M_bad_20 : decode b_M_bad 20 = .ok (.iload_n 2, 1) := by decide +kernel
theorem d_M_bad_21 : decode b_M_bad 21 = .ok (.sipush (-2000), 3) := by decide +kernel
theorem d_M_bad_24 : decode b_M_bad 24 = .ok (.sipush 2000, 3) := by decide +kernel
theorem d_M_bad_27 : decode b_M_bad 27 = .ok (.invokestatic 81, 3) := by decide +kernel
theorem d_M_bad_30 : decode b_M_bad 30 = .ok (.ifCond .eq 30, 3) := by decide +kernel
theorem d_M_bad_33 : decode b_M_bad 33 = .ok (.iload_n 3, 1) := by decide +kernel
theorem d_M_bad_34 : decode b_M_bad 34 = .ok (.sipush (-2000), 3) := by decide +kernel
theorem d_M_bad_37 : decode b_M_bad 37 = .ok (.sipush 2000, 3) := by decide +kernel
theorem d_M_bad_40 : decode b_M_bad 40 = .ok (.invokestatic 81, 3) := by decide +kernel
theorem d_M_bad_43 : decode b_M_bad 43 = .ok (.ifCond .eq 17, 3) := by decide +kernel
theorem d_M_bad_46 : decode b_M_bad 46 = .ok (.iload 4, 2) := by decide +kernel
theorem d_M_bad_48 : decode b_M_bad 48 = .ok (.sipush (-2000), 3) := by decide +kernel
theorem d_M_bad_51 : decode b_M_bad 51 = .ok (.sipush 2000, 3) := by decide +kernel
theorem d_M_bad_54 : decode b_M_bad 54 = .ok (.invokestatic 81, 3) := by decide +kernel
theorem d_M_bad_57 : decode b_M_bad 57 = .ok (.ifCond .ne 7, 3) := by decide +kernel
theorem d_M_bad_60 : decode b_M_bad 60 = .ok (.iconst 1, 1) := by decide +kernel
theorem d_M_bad_61 : decode b_M_bad 61 = .ok (.goto 4, 3) := by decide +kernel
theorem d_M_bad_64 : decode b_M_bad 64 = .ok (.iconst 0, 1) := by decide +kernel
theorem d_M_bad_65 : decode b_M_bad 65 = .ok (.ireturn, 1) := by decide +kernel
theorem d_M_check_0 : decode b_M_check 0 = .ok (.aload_n 0, 1) := by decide +kernel
theorem d_M_check_1 : decode b_M_check 1 = .ok (.iload_n 1, 1) := by decide +kernel
theorem d_M_check_2 : decode b_M_check 2 = .ok (.iload_n 2, 1) := by decide +kernel
theorem d_M_check_3 : decode b_M_check 3 = .ok (.iload_n 3, 1) := by decide +kernel
theorem d_M_check_4 : decode b_M_check 4 = .ok (.iload 4, 2) := by decide +kernel
theorem d_M_check_6 : decode b_M_check 6 = .ok (.invokevirtual 203, 3) := by decide +kernel
theorem d_M_check_9 : decode b_M_check 9 = .ok (.ifCond .eq 5, 3) := by decide +kernel
theorem d_M_check_12 : decode b_M_check 12 = .ok (.iconst (-1), 1) := by decide +kernel
theorem d_M_check_13 : decode b_M_check 13 = .ok (.ireturn, 1) := by decide +kernel
theorem d_M_check_14 : decode b_M_check 14 = .ok (.iconst 0, 1) := by decide +kernel
theorem d_M_check_15 : decode b_M_check 15 = .ok (.istore 5, 2) := by decide +kernel
theorem d_M_check_17 : decode b_M_check 17 = .ok (.iconst 0, 1) := by decide +kernel
theorem d_M_check_18 : decode b_M_check 18 = .ok (.istore 6, 2) := by decide +kernel
theorem d_M_check_20 : decode b_M_check 20 = .ok (.iconst 0, 1) := by decide +kernel
theorem d_M_check_21 : decode b_M_check 21 = .ok (.istore 7, 2) := by decide +kernel
theorem d_M_check_23 : decode b_M_check 23 = .ok (.iload 7, 2) := by decide +kernel
theorem d_M_check_25 : decode b_M_check 25 = .ok (.aload_n 0, 1) := by decide +kernel
theorem d_M_check_26 : decode b_M_check 26 = .ok (.getfield 94, 3) := by decide +kernel
theorem d_M_check_29 : decode b_M_check 29 = .ok (.if_icmp .ge 129, 3) := by decide +kernel
theorem d_M_check_32 : decode b_M_check 32 = .ok (.aload_n 0, 1) := by decide +kernel
theorem d_M_check_33 : decode b_M_check 33 = .ok (.getfield 26, 3) := by decide +kernel
theorem d_M_check_36 : decode b_M_check 36 = .ok (.iload 7, 2) := by decide +kernel
theorem d_M_check_38 : decode b_M_check 38 = .ok (.iaload, 1) := by decide +kernel
theorem d_M_check_39 : decode b_M_check 39 = .ok (.iload_n 1, 1) := by decide +kernel
theorem d_M_check_40 : decode b_M_check 40 = .ok (.iload_n 2, 1) := by decide +kernel
theorem d_M_check_41 : decode b_M_check 41 = .ok (.iload_n 3, 1) := by decide +kernel
theorem d_M_check_42 : decode b_M_check 42 = .ok (.iload 4, 2) := by decide +kernel
theorem d_M_check_44 : decode b_M_check 44 = .ok (.invokestatic 207, 3) := by decide +kernel
theorem d_M_check_47 : decode b_M_check 47 = .ok (.lstore 8, 2) := by decide +kernel
theorem d_M_check_49 : decode b_M_check 49 = .ok (.aload_n 0, 1) := by decide +kernel
theorem d_M_check_50 : decode b_M_check 50 = .ok (.getfield 22, 3) := by decide +kernel
theorem d_M_check_53 : decode b_M_check 53 = .ok (.iload 7, 2) := by decide +kernel
theorem d_M_check_55 : decode b_M_check 55 = .ok (.baload, 1) := by decide +kernel
theorem d_M_check_56 : decode b_M_check 56 = .ok (.ifCond .eq 17, 3) := by decide +kernel
theorem d_M_check_59 : decode b_M_check 59 = .ok (.aload_n 0, 1) := by decide +kernel
theorem d_M_check_60 : decode b_M_check 60 = .ok (.getfield 29, 3) := by decide +kernel
theorem d_M_check_63 : decode b_M_check 63 = .ok (.iload 7, 2) := by decide +kernel
theorem d_M_check_65 : decode b_M_check 65 = .ok (.iaload, 1) := by decide +kernel
theorem d_M_check_66 : decode b_M_check 66 = .ok (.i2l, 1) := by decide +kernel
theorem d_M_check_67 : decode b_M_check 67 = .ok (.lload 8, 2) := by decide +kernel
theorem d_M_check_69 : decode b_M_check 69 = .ok (.lsub, 1) := by decide +kernel
theorem d_M_check_70 : decode b_M_check 70 = .ok (.goto 14, 3) := by decide +kernel
theorem d_M_check_73 : decode b_M_check 73 = .ok (.lload 8, 2) := by decide +kernel
theorem d_M_check_75 : decode b_M_check 75 = .ok (.aload_n 0, 1) := by decide +kernel
theorem d_M_check_76 : decode b_M_check 76 = .ok (.getfield 29, 3) := by decide +kernel
theorem d_M_check_79 : decode b_M_check 79 = .ok (.iload 7, 2) := by decide +kernel
theorem d_M_check_81 : decode b_M_check 81 = .ok (.iaload, 1) := by decide +kernel
theorem d_M_check_82 : decode b_M_check 82 = .ok (.i2l, 1) := by decide +kernel
theorem d_M_check_83 : decode b_M_check 83 = .ok (.lsub, 1) := by decide +kernel
theorem d_M_check_84 : decode b_M_check 84 = .ok (.lstore 10, 2) := by decide +kernel
theorem d_M_check_86 : decode b_M_check 86 = .ok (.aload_n 0, 1) := by decide +kernel
theorem d_M_check_87 : decode b_M_check 87 = .ok (.getfield 66, 3) := by decide +kernel
theorem d_M_check_90 : decode b_M_check 90 = .ok (.iload 7, 2) := by decide +kernel
theorem d_M_check_92 : decode b_M_check 92 = .ok (.laload, 1) := by decide +kernel
theorem d_M_check_93 : decode b_M_check 93 = .ok (.lconst 0, 1) := by decide +kernel
theorem d_M_check_94 : decode b_M_check 94 = .ok (.lcmp, 1) := by decide +kernel
theorem d_M_check_95 : decode b_M_check 95 = .ok (.ifCond .le 14, 3) := by decide +kernel
theorem d_M_check_98 : decode b_M_check 98 = .ok (.lload 10, 2) := by decide +kernel
theorem d_M_check_100 : decode b_M_check 100 = .ok (.lconst 0, 1) := by decide +kernel
theorem d_M_check_101 : decode b_M_check 101 = .ok (.lcmp, 1) := by decide +kernel
theorem d_M_check_102 : decode b_M_check 102 = .ok (.ifCond .ge 7, 3) := by decide +kernel
theorem d_M_check_105 : decode b_M_check 105 = .ok (.iconst 1, 1) := by decide +kernel
theorem d_M_check_106 : decode b_M_check 106 = .ok (.goto 5, 3) := by decide +kernel
theorem d_M_check_109 : decode b_M_check 109 = .ok (.iload 5, 2) := by decide +kernel
theorem d_M_check_111 : decode b_M_check 111 = .ok (.istore 5, 2) := by decide +kernel
theorem d_M_check_113 : decode b_M_check 113 = .ok (.aload_n 0, 1) := by decide +kernel
theorem d_M_check_114 : decode b_M_check 114 = .ok (.getfield 66, 3) := by decide +kernel
theorem d_M_check_117 : decode b_M_check 117 = .ok (.iload 7, 2) := by decide +kernel
theorem d_M_check_119 : decode b_M_check 119 = .ok (.laload, 1) := by decide +kernel
theorem d_M_check_120 : decode b_M_check 120 = .ok (.aload_n 0, 1) := by decide +kernel
theorem d_M_check_121 : decode b_M_check 121 = .ok (.getfield 32, 3) := by decide +kernel
theorem d_M_check_124 : decode b_M_check 124 = .ok (.iload 7, 2) := by decide +kernel
theorem d_M_check_126 : decode b_M_check 126 = .ok (.iaload, 1) := by decide +kernel
theorem d_M_check_127 : decode b_M_check 127 = .ok (.i2l, 1) := by decide +kernel
theorem d_M_check_128 : decode b_M_check 128 = .ok (.aload_n 0, 1) := by decide +kernel
theorem d_M_check_129 : decode b_M_check 129 = .ok (.getfield 194, 3) := by decide +kernel
theorem d_M_check_132 : decode b_M_check 132 = .ok (.lmul, 1) := by decide +kernel
theorem d_M_check_133 : decode b_M_check 133 = .ok (.lcmp, 1) := by decide +kernel
theorem d_M_check_134 : decode b_M_check 134 = .ok (.ifCond .ge 14, 3) := by decide +kernel
theorem d_M_check_137 : decode b_M_check 137 = .ok (.lload 10, 2) := by decide +kernel
theorem d_M_check_139 : decode b_M_check 139 = .ok (.lconst 0, 1) := by decide +kernel
theorem d_M_check_140 : decode b_M_check 140 = .ok (.lcmp, 1) := by decide +kernel
theorem d_M_check_141 : decode b_M_check 141 = .ok (.ifCond .le 7, 3) := by decide +kernel
theorem d_M_check_144 : decode b_M_check 144 = .ok (.iconst 2, 1) := by decide +kernel
theorem d_M_check_145 : decode b_M_check 145 = .ok (.goto 5, 3) := by decide +kernel
theorem d_M_check_148 : decode b_M_check 148 = .ok (.iload 6, 2) := by decide +kernel
theorem d_M_check_150 : decode b_M_check 150 = .ok (.istore 6, 2) := by decide +kernel
theorem d_M_check_152 : decode b_M_check 152 = .ok (.iinc 7 1, 3) := by decide +kernel
theorem d_M_check_155 : decode b_M_check 155 = .ok (.goto (-132), 3) := by decide +kernel
theorem d_M_check_158 : decode b_M_check 158 = .ok (.iload 5, 2) := by decide +kernel
theorem d_M_check_160 : decode b_M_check 160 = .ok (.iload 6, 2) := by decide +kernel
theorem d_M_check_162 : decode b_M_check 162 = .ok (.iadd, 1) := by decide +kernel
theorem d_M_check_163 : decode b_M_check 163 = .ok (.aload_n 0, 1) := by decide +kernel
theorem d_M_check_164 : decode b_M_check 164 = .ok (.iload_n 1, 1) := by decide +kernel
theorem d_M_check_165 : decode b_M_check 165 = .ok (.iload_n 2, 1) := by decide +kernel
theorem d_M_check_166 : decode b_M_check 166 = .ok (.iload_n 3, 1) := by decide +kernel
theorem d_M_check_167 : decode b_M_check 167 = .ok (.iload 4, 2) := by decide +kernel
theorem d_M_check_169 : decode b_M_check 169 = .ok (.invokevirtual 210, 3) := by decide +kernel
theorem d_M_check_172 : decode b_M_check 172 = .ok (.ifCond .eq 7, 3) := by decide +kernel
theorem d_M_check_175 : decode b_M_check 175 = .ok (.iconst 4, 1) := by decide +kernel
theorem d_M_check_176 : decode b_M_check 176 = .ok (.goto 4, 3) := by decide +kernel
theorem d_M_check_179 : decode b_M_check 179 = .ok (.iconst 0, 1) := by decide +kernel
theorem d_M_check_180 : decode b_M_check 180 = .ok (.iadd, 1) := by decide +kernel
theorem d_M_check_181 : decode b_M_check 181 = .ok (.ireturn, 1) := by decide +kernel
theorem d_M_carriesMore_0 : decode b_M_carriesMore 0 = .ok (.aload_n 0, 1) := by decide +kernel
theorem d_M_carriesMore_1 : decode b_M_carriesMore 1 = .ok (.iload_n 1, 1) := by decide +kernel
theorem d_M_carriesMore_2 : decode b_M_carriesMore 2 = .ok (.iload_n 2, 1) := by decide +kernel
theorem d_M_carriesMore_3 : decode b_M_carriesMore 3 = .ok (.iload_n 3, 1) := by decide +kernel
theorem d_M_carriesMore_4 : decode b_M_carriesMore 4 = .ok (.iload 4, 2) := by decide +kernel
theorem d_M_carriesMore_6 : decode b_M_carriesMore 6 = .ok (.invokevirtual 213, 3) := by decide +kernel
theorem d_M_carriesMore_9 : decode b_M_carriesMore 9 = .ok (.lstore 5, 2) := by decide +kernel
theorem d_M_carriesMore_11 : decode b_M_carriesMore 11 = .ok (.aload_n 0, 1) := by decide +kernel
theorem d_M_carriesMore_12 : decode b_M_carriesMore 12 = .ok (.invokevirtual 159, 3) := by decide +kernel
theorem d_M_carriesMore_15 : decode b_M_carriesMore 15 = .ok (.iconst 0, 1) := by decide +kernel
theorem d_M_carriesMore_16 : decode b_M_carriesMore 16 = .ok (.istore 7, 2) := by decide +kernel
theorem d_M_carriesMore_18 : decode b_M_carriesMore 18 = .ok (.iload 7, 2) := by decide +kernel
theorem d_M_carriesMore_20 : decode b_M_carriesMore 20 = .ok (.aload_n 0, 1) := by decide +kernel
theorem d_M_carriesMore_21 : decode b_M_carriesMore 21 = .ok (.getfield 105, 3) := by decide +kernel
theorem d_M_carriesMore_24 : decode b_M_carriesMore 24 = .ok (.if_icmp .ge 131, 3) := by decide +kernel
theorem d_M_carriesMore_27 : decode b_M_carriesMore 27 = .ok (.iload 7, 2) := by decide +kernel
theorem d_M_carriesMore_29 : decode b_M_carriesMore 29 = .ok (.iconst 1, 1) := by decide +kernel
theorem d_M_carriesMore_30 : decode b_M_carriesMore 30 = .ok (.iadd, 1) := by decide +kernel
theorem d_M_carriesMore_31 : decode b_M_carriesMore 31 = .ok (.istore 8, 2) := by decide +kernel
theorem d_M_carriesMore_33 : decode b_M_carriesMore 33 = .ok (.iload 8, 2) := by decide +kernel
theorem d_M_carriesMore_35 : decode b_M_carriesMore 35 = .ok (.aload_n 0, 1) := by decide +kernel
theorem d_M_carriesMore_36 : decode b_M_carriesMore 36 = .ok (.getfield 105, 3) := by decide +kernel
theorem d_M_carriesMore_39 : decode b_M_carriesMore 39 = .ok (.if_icmp .ge 110, 3) := by decide +kernel
theorem d_M_carriesMore_42 : decode b_M_carriesMore 42 = .ok (.iload 8, 2) := by decide +kernel
theorem d_M_carriesMore_44 : decode b_M_carriesMore 44 = .ok (.iconst 1, 1) := by decide +kernel
theorem d_M_carriesMore_45 : decode b_M_carriesMore 45 = .ok (.iadd, 1) := by decide +kernel
theorem d_M_carriesMore_46 : decode b_M_carriesMore 46 = .ok (.istore 9, 2) := by decide +kernel
theorem d_M_carriesMore_48 : decode b_M_carriesMore 48 = .ok (.iload 9, 2) := by decide +kernel
theorem d_M_carriesMore_50 : decode b_M_carriesMore 50 = .ok (.aload_n 0, 1) := by decide +kernel
theorem d_M_carriesMore_51 : decode b_M_carriesMore 51 = .ok (.getfield 105, 3) := by decide +kernel
theorem d_M_carriesMore_54 : decode b_M_carriesMore 54 = .ok (.if_icmp .ge 89, 3) := by decide +kernel
theorem d_M_carriesMore_57 : decode b_M_carriesMore 57 = .ok (.aload_n 0, 1) := by decide +kernel
theorem d_M_carriesMore_58 : decode b_M_carriesMore 58 = .ok (.iload 7, 2) := by decide +kernel
theorem d_M_carriesMore_60 : decode b_M_carriesMore 60 = .ok (.iload 8, 2) := by decide +kernel
theorem d_M_carriesMore_62 : decode b_M_carriesMore 62 = .ok (.iload 9, 2) := by decide +kernel
theorem d_M_carriesMore_64 : decode b_M_carriesMore 64 = .ok (.invokevirtual 166, 3) := by decide +kernel
theorem d_M_carriesMore_67 : decode b_M_carriesMore 67 = .ok (.ifCond .eq 70, 3) := by decide +kernel
theorem d_M_carriesMore_70 : decode b_M_carriesMore 70 = .ok (.aload_n 0, 1) := by decide +kernel
theorem d_M_carriesMore_71 : decode b_M_carriesMore 71 = .ok (.invokevirtual 169, 3) := by decide +kernel
theorem d_M_carriesMore_74 : decode b_M_carriesMore 74 = .ok (.ifCond .eq 63, 3) := by decide +kernel
theorem d_M_carriesMore_77 : decode b_M_carriesMore 77 = .ok (.lconst 0, 1) := by decide +kernel
theorem d_M_carriesMore_78 : decode b_M_carriesMore 78 = .ok (.lstore 10, 2) := by decide +kernel
theorem d_M_carriesMore_80 : decode b_M_carriesMore 80 = .ok (.iconst 0, 1) := by decide +kernel
theorem d_M_carriesMore_81 : decode b_M_carriesMore 81 = .ok (.istore 12, 2) := by decide +kernel
theorem d_M_carriesMore_83 : decode b_M_carriesMore 83 = .ok (.iload 12, 2) := by decide +kernel
theorem d_M_carriesMore_85 : decode b_M_carriesMore 85 = .ok (.iconst 4, 1) := by decide +kernel
theorem d_M_carriesMore_86 : decode b_M_carriesMore 86 = .ok (.if_icmp .ge 31, 3) := by decide +kernel
theorem d_M_carriesMore_89 : decode b_M_carriesMore 89 = .ok (.lload 10, 2) := by decide +kernel
theorem d_M_carriesMore_91 : decode b_M_carriesMore 91 = .ok (.iload 12, 2) := by decide +kernel
theorem d_M_carriesMore_93 : decode b_M_carriesMore 93 = .ok (.iload_n 1, 1) := by decide +kernel
theorem d_M_carriesMore_94 : decode b_M_carriesMore 94 = .ok (.iload_n 2, 1) := by decide +kernel
theorem d_M_carriesMore_95 : decode b_M_carriesMore 95 = .ok (.iload_n 3, 1) := by decide +kernel
theorem d_M_carriesMore_96 : decode b_M_carriesMore 96 = .ok (.iload 4, 2) := by decide +kernel
theorem d_M_carriesMore_98 : decode b_M_carriesMore 98 = .ok (.invokestatic 207, 3) := by decide +kernel
theorem d_M_carriesMore_101 : decode b_M_carriesMore 101 = .ok (.aload_n 0, 1) := by decide +kernel
theorem d_M_carriesMore_102 : decode b_M_carriesMore 102 = .ok (.iload 12, 2) := by decide +kernel
theorem d_M_carriesMore_104 : decode b_M_carriesMore 104 = .ok (.invokevirtual 137, 3) := by decide +kernel
theorem d_M_carriesMore_107 : decode b_M_carriesMore 107 = .ok (.lmul, 1) := by decide +kernel
theorem d_M_carriesMore_108 : decode b_M_carriesMore 108 = .ok (.ladd, 1) := by decide +kernel
theorem d_M_carriesMore_109 : decode b_M_carriesMore 109 = .ok (.lstore 10, 2) := by decide +kernel
theorem d_M_carriesMore_111 : decode b_M_carriesMore 111 = .ok (.iinc 12 1, 3) := by decide +kernel
theorem d_M_carriesMore_114 : decode b_M_carriesMore 114 = .ok (.goto (-31), 3) := by decide +kernel
theorem d_M_carriesMore_117 : decode b_M_carriesMore 117 = .ok (.lload 10, 2) := by decide +kernel
theorem d_M_carriesMore_119 : decode b_M_carriesMore 119 = .ok (.aload_n 0, 1) := by decide +kernel
theorem d_M_carriesMore_120 : decode b_M_carriesMore 120 = .ok (.getfield 194, 3) := by decide +kernel
theorem d_M_carriesMore_123 : decode b_M_carriesMore 123 = .ok (.lmul, 1) := by decide +kernel
theorem d_M_carriesMore_124 : decode b_M_carriesMore 124 = .ok (.lload 5, 2) := by decide +kernel
theorem d_M_carriesMore_126 : decode b_M_carriesMore 126 = .ok (.aload_n 0, 1) := by decide +kernel
theorem d_M_carriesMore_127 : decode b_M_carriesMore 127 = .ok (.getfield 130, 3) := by decide +kernel
theorem d_M_carriesMore_130 : decode b_M_carriesMore 130 = .ok (.lmul, 1) := by decide +kernel
theorem d_M_carriesMore_131 : decode b_M_carriesMore 131 = .ok (.lcmp, 1) := by decide +kernel
theorem d_M_carriesMore_132 : decode b_M_carriesMore 132 = .ok (.ifCond .le 5, 3) := by decide +kernel
theorem d_M_carriesMore_135 : decode b_M_carriesMore 135 = .ok (.iconst 1, 1) := by decide +kernel
theorem d_M_carriesMore_136 : decode b_M_carriesMore 136 = .ok (.ireturn, 1) := by decide +kernel
theorem d_M_carriesMore_137 : decode b_M_carriesMore 137 = .ok (.iinc 9 1, 3) := by decide +kernel
theorem d_M_carriesMore_140 : decode b_M_carriesMore 140 = .ok (.goto (-92), 3) := by decide +kernel
theorem d_M_carriesMore_143 : decode b_M_carriesMore 143 = .ok (.iinc 8 1, 3) := by decide +kernel
theorem d_M_carriesMore_146 : decode b_M_carriesMore 146 = .ok (.goto (-113), 3) := by decide +kernel
theorem d_M_carriesMore_149 : decode b_M_carriesMore 149 = .ok (.iinc 7 1, 3) := by decide +kernel
theorem d_M_carriesMore_152 : decode b_M_carriesMore 152 = .ok (.goto (-134), 3) := by decide +kernel
theorem d_M_carriesMore_155 : decode b_M_carriesMore 155 = .ok (.iconst 0, 1) := by decide +kernel
theorem d_M_carriesMore_156 : decode b_M_carriesMore 156 = .ok (.ireturn, 1) := by decide +kernel
theorem d_M_rent_0 : decode b_M_rent 0 = .ok (.aload_n 0, 1) := by decide +kernel
theorem d_M_rent_1 : decode b_M_rent 1 = .ok (.iload_n 1, 1) := by decide +kernel
theorem d_M_rent_2 : decode b_M_rent 2 = .ok (.iload_n 2, 1) := by decide +kernel
theorem d_M_rent_3 : decode b_M_rent 3 = .ok (.iload_n 3, 1) := by decide +kernel
theorem d_M_rent_4 : decode b_M_rent 4 = .ok (.iload 4, 2) := by decide +kernel
theorem d_M_rent_6 : decode b_M_rent 6 = .ok (.invokevirtual 203, 3) := by decide +kernel
theorem d_M_rent_9 : decode b_M_rent 9 = .ok (.ifCond .eq 5, 3) := by decide +kernel
theorem d_M_rent_12 : decode b_M_rent 12 = .ok (.lconst 0, 1) := by decide +kernel
theorem d_M_rent_13 : decode b_M_rent 13 = .ok (.lreturn, 1) := by decide +kernel
theorem d_M_rent_14 : decode b_M_rent 14 = .ok (.lconst 0, 1) := by decide +kernel
theorem d_M_rent_15 : decode b_M_rent 15 = .ok (.lstore 5, 2) := by decide +kernel
theorem d_M_rent_17 : decode b_M_rent 17 = .ok (.iconst 0, 1) := by decide +kernel
theorem d_M_rent_18 : decode b_M_rent 18 = .ok (.istore 7, 2) := by decide +kernel
theorem d_M_rent_20 : decode b_M_rent 20 = .ok (.iload 7, 2) := by decide +kernel
theorem d_M_rent_22 : decode b_M_rent 22 = .ok (.aload_n 0, 1) := by decide +kernel
theorem d_M_rent_23 : decode b_M_rent 23 = .ok (.getfield 94, 3) := by decide +kernel
theorem d_M_rent_26 : decode b_M_rent 26 = .ok (.if_icmp .ge 59, 3) := by decide +kernel
theorem d_M_rent_29 : decode b_M_rent 29 = .ok (.aload_n 0, 1) := by decide +kernel
theorem d_M_rent_30 : decode b_M_rent 30 = .ok (.getfield 26, 3) := by decide +kernel
theorem d_M_rent_33 : decode b_M_rent 33 = .ok (.iload 7, 2) := by decide +kernel
theorem d_M_rent_35 : decode b_M_rent 35 = .ok (.iaload, 1) := by decide +kernel
theorem d_M_rent_36 : decode b_M_rent 36 = .ok (.iload_n 1, 1) := by decide +kernel
theorem d_M_rent_37 : decode b_M_rent 37 = .ok (.iload_n 2, 1) := by decide +kernel
theorem d_M_rent_38 : decode b_M_rent 38 = .ok (.iload_n 3, 1) := by decide +kernel
theorem d_M_rent_39 : decode b_M_rent 39 = .ok (.iload 4, 2) := by decide +kernel
theorem d_M_rent_41 : decode b_M_rent 41 = .ok (.invokestatic 207, 3) := by decide +kernel
theorem d_M_rent_44 : decode b_M_rent 44 = .ok (.aload_n 0, 1) := by decide +kernel
theorem d_M_rent_45 : decode b_M_rent 45 = .ok (.getfield 66, 3) := by decide +kernel
theorem d_M_rent_48 : decode b_M_rent 48 = .ok (.iload 7, 2) := by decide +kernel
theorem d_M_rent_50 : decode b_M_rent 50 = .ok (.laload, 1) := by decide +kernel
theorem d_M_rent_51 : decode b_M_rent 51 = .ok (.lmul, 1) := by decide +kernel
theorem d_M_rent_52 : decode b_M_rent 52 = .ok (.lstore 8, 2) := by decide +kernel
theorem d_M_rent_54 : decode b_M_rent 54 = .ok (.aload_n 0, 1) := by decide +kernel
theorem d_M_rent_55 : decode b_M_rent 55 = .ok (.getfield 22, 3) := by decide +kernel
theorem d_M_rent_58 : decode b_M_rent 58 = .ok (.iload 7, 2) := by decide +kernel
theorem d_M_rent_60 : decode b_M_rent 60 = .ok (.baload, 1) := by decide +kernel
theorem d_M_rent_61 : decode b_M_rent 61 = .ok (.ifCond .eq 11, 3) := by decide +kernel
theorem d_M_rent_64 : decode b_M_rent 64 = .ok (.lload 5, 2) := by decide +kernel
theorem d_M_rent_66 : decode b_M_rent 66 = .ok (.lload 8, 2) := by decide +kernel
theorem d_M_rent_68 : decode b_M_rent 68 = .ok (.ladd, 1) := by decide +kernel
theorem d_M_rent_69 : decode b_M_rent 69 = .ok (.goto 8, 3) := by decide +kernel
theorem d_M_rent_72 : decode b_M_rent 72 = .ok (.lload 5, 2) := by decide +kernel
theorem d_M_rent_74 : decode b_M_rent 74 = .ok (.lload 8, 2) := by decide +kernel
theorem d_M_rent_76 : decode b_M_rent 76 = .ok (.lsub, 1) := by decide +kernel
theorem d_M_rent_77 : decode b_M_rent 77 = .ok (.lstore 5, 2) := by decide +kernel
theorem d_M_rent_79 : decode b_M_rent 79 = .ok (.iinc 7 1, 3) := by decide +kernel
theorem d_M_rent_82 : decode b_M_rent 82 = .ok (.goto (-62), 3) := by decide +kernel
theorem d_M_rent_85 : decode b_M_rent 85 = .ok (.lload 5, 2) := by decide +kernel
theorem d_M_rent_87 : decode b_M_rent 87 = .ok (.lreturn, 1) := by decide +kernel
