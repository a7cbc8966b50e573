theorem d_M_init_0 : decode b_M_init 0 = .ok (.aload_n 0, 1) := by decide +kernel
theorem d_M_init_1 : decode b_M_init 1 = .ok (.invokespecial 1, 3) := by decide +kernel
theorem d_M_init_4 : decode b_M_init 4 = .ok (.aload_n 0, 1) := by decide +kernel
theorem d_M_init_5 : decode b_M_init 5 = .ok (.bipush 6, 2) := by decide +kernel
theorem d_M_init_7 : decode b_M_init 7 = .ok (.newarray .int, 2) := by decide +kernel
theorem d_M_init_9 : decode b_M_init 9 = .ok (.putfield 7, 3) := by decide +kernel
theorem d_M_init_12 : decode b_M_init 12 = .ok (.aload_n 0, 1) := by decide +kernel
theorem d_M_init_13 : decode b_M_init 13 = .ok (.bipush 6, 2) := by decide +kernel
theorem d_M_init_15 : decode b_M_init 15 = .ok (.newarray .int, 2) := by decide +kernel
theorem d_M_init_17 : decode b_M_init 17 = .ok (.putfield 13, 3) := by decide +kernel
theorem d_M_init_20 : decode b_M_init 20 = .ok (.aload_n 0, 1) := by decide +kernel
theorem d_M_init_21 : decode b_M_init 21 = .ok (.bipush 6, 2) := by decide +kernel
theorem d_M_init_23 : decode b_M_init 23 = .ok (.newarray .int, 2) := by decide +kernel
theorem d_M_init_25 : decode b_M_init 25 = .ok (.putfield 16, 3) := by decide +kernel
theorem d_M_init_28 : decode b_M_init 28 = .ok (.aload_n 0, 1) := by decide +kernel
theorem d_M_init_29 : decode b_M_init 29 = .ok (.bipush 6, 2) := by decide +kernel
theorem d_M_init_31 : decode b_M_init 31 = .ok (.newarray .int, 2) := by decide +kernel
theorem d_M_init_33 : decode b_M_init 33 = .ok (.putfield 19, 3) := by decide +kernel
theorem d_M_init_36 : decode b_M_init 36 = .ok (.aload_n 0, 1) := by decide +kernel
theorem d_M_init_37 : decode b_M_init 37 = .ok (.bipush 8, 2) := by decide +kernel
theorem d_M_init_39 : decode b_M_init 39 = .ok (.newarray .boolean, 2) := by decide +kernel
theorem d_M_init_41 : decode b_M_init 41 = .ok (.putfield 22, 3) := by decide +kernel
theorem d_M_init_44 : decode b_M_init 44 = .ok (.aload_n 0, 1) := by decide +kernel
theorem d_M_init_45 : decode b_M_init 45 = .ok (.bipush 8, 2) := by decide +kernel
theorem d_M_init_47 : decode b_M_init 47 = .ok (.newarray .int, 2) := by decide +kernel
theorem d_M_init_49 : decode b_M_init 49 = .ok (.putfield 26, 3) := by decide +kernel
theorem d_M_init_52 : decode b_M_init 52 = .ok (.aload_n 0, 1) := by decide +kernel
theorem d_M_init_53 : decode b_M_init 53 = .ok (.bipush 8, 2) := by decide +kernel
theorem d_M_init_55 : decode b_M_init 55 = .ok (.newarray .int, 2) := by decide +kernel
theorem d_M_init_57 : decode b_M_init 57 = .ok (.putfield 29, 3) := by decide +kernel
theorem d_M_init_60 : decode b_M_init 60 = .ok (.aload_n 0, 1) := by decide +kernel
theorem d_M_init_61 : decode b_M_init 61 = .ok (.bipush 8, 2) := by decide +kernel
theorem d_M_init_63 : decode b_M_init 63 = .ok (.newarray .int, 2) := by decide +kernel
theorem d_M_init_65 : decode b_M_init 65 = .ok (.putfield 32, 3) := by decide +kernel
theorem d_M_init_68 : decode b_M_init 68 = .ok (.aload_n 0, 1) := by decide +kernel
theorem d_M_init_69 : decode b_M_init 69 = .ok (.bipush 8, 2) := by decide +kernel
theorem d_M_init_71 : decode b_M_init 71 = .ok (.newarray .int, 2) := by decide +kernel
theorem d_M_init_73 : decode b_M_init 73 = .ok (.putfield 35, 3) := by decide +kernel
theorem d_M_init_76 : decode b_M_init 76 = .ok (.aload_n 0, 1) := by decide +kernel
theorem d_M_init_77 : decode b_M_init 77 = .ok (.bipush 24, 2) := by decide +kernel
theorem d_M_init_79 : decode b_M_init 79 = .ok (.newarray .long, 2) := by decide +kernel
theorem d_M_init_81 : decode b_M_init 81 = .ok (.putfield 38, 3) := by decide +kernel
theorem d_M_init_84 : decode b_M_init 84 = .ok (.aload_n 0, 1) := by decide +kernel
theorem d_M_init_85 : decode b_M_init 85 = .ok (.bipush 24, 2) := by decide +kernel
theorem d_M_init_87 : decode b_M_init 87 = .ok (.newarray .long, 2) := by decide +kernel
theorem d_M_init_89 : decode b_M_init 89 = .ok (.putfield 42, 3) := by decide +kernel
theorem d_M_init_92 : decode b_M_init 92 = .ok (.aload_n 0, 1) := by decide +kernel
theorem d_M_init_93 : decode b_M_init 93 = .ok (.bipush 24, 2) := by decide +kernel
theorem d_M_init_95 : decode b_M_init 95 = .ok (.newarray .long, 2) := by decide +kernel
theorem d_M_init_97 : decode b_M_init 97 = .ok (.putfield 45, 3) := by decide +kernel
theorem d_M_init_100 : decode b_M_init 100 = .ok (.aload_n 0, 1) := by decide +kernel
theorem d_M_init_101 : decode b_M_init 101 = .ok (.bipush 24, 2) := by decide +kernel
theorem d_M_init_103 : decode b_M_init 103 = .ok (.newarray .long, 2) := by decide +kernel
theorem d_M_init_105 : decode b_M_init 105 = .ok (.putfield 48, 3) := by decide +kernel
theorem d_M_init_108 : decode b_M_init 108 = .ok (.aload_n 0, 1) := by decide +kernel
theorem d_M_init_109 : decode b_M_init 109 = .ok (.iconst 4, 1) := by decide +kernel
theorem d_M_init_110 : decode b_M_init 110 = .ok (.newarray .int, 2) := by decide +kernel
theorem d_M_init_112 : decode b_M_init 112 = .ok (.putfield 51, 3) := by decide +kernel
theorem d_M_init_115 : decode b_M_init 115 = .ok (.aload_n 0, 1) := by decide +kernel
theorem d_M_init_116 : decode b_M_init 116 = .ok (.iconst 4, 1) := by decide +kernel
theorem d_M_init_117 : decode b_M_init 117 = .ok (.newarray .long, 2) := by decide +kernel
theorem d_M_init_119 : decode b_M_init 119 = .ok (.putfield 54, 3) := by decide +kernel
theorem d_M_init_122 : decode b_M_init 122 = .ok (.aload_n 0, 1) := by decide +kernel
theorem d_M_init_123 : decode b_M_init 123 = .ok (.bipush 8, 2) := by decide +kernel
theorem d_M_init_125 : decode b_M_init 125 = .ok (.newarray .long, 2) := by decide +kernel
theorem d_M_init_127 : decode b_M_init 127 = .ok (.putfield 57, 3) := by decide +kernel
theorem d_M_init_130 : decode b_M_init 130 = .ok (.aload_n 0, 1) := by decide +kernel
theorem d_M_init_131 : decode b_M_init 131 = .ok (.iconst 4, 1) := by decide +kernel
theorem d_M_init_132 : decode b_M_init 132 = .ok (.newarray .long, 2) := by decide +kernel
theorem d_M_init_134 : decode b_M_init 134 = .ok (.putfield 60, 3) := by decide +kernel
theorem d_M_init_137 : decode b_M_init 137 = .ok (.aload_n 0, 1) := by decide +kernel
theorem d_M_init_138 : decode b_M_init 138 = .ok (.bipush 8, 2) := by decide +kernel
theorem d_M_init_140 : decode b_M_init 140 = .ok (.newarray .long, 2) := by decide +kernel
theorem d_M_init_142 : decode b_M_init 142 = .ok (.putfield 63, 3) := by decide +kernel
theorem d_M_init_145 : decode b_M_init 145 = .ok (.aload_n 0, 1) := by decide +kernel
theorem d_M_init_146 : decode b_M_init 146 = .ok (.bipush 8, 2) := by decide +kernel
theorem d_M_init_148 : decode b_M_init 148 = .ok (.newarray .long, 2) := by decide +kernel
theorem d_M_init_150 : decode b_M_init 150 = .ok (.putfield 66, 3) := by decide +kernel
theorem d_M_init_153 : decode b_M_init 153 = .ok (.aload_n 0, 1) := by decide +kernel
theorem d_M_init_154 : decode b_M_init 154 = .ok (.bipush 6, 2) := by decide +kernel
theorem d_M_init_156 : decode b_M_init 156 = .ok (.newarray .long, 2) := by decide +kernel
theorem d_M_init_158 : decode b_M_init 158 = .ok (.putfield 69, 3) := by decide +kernel
theorem d_M_init_161 : decode b_M_init 161 = .ok (.aload_n 0, 1) := by decide +kernel
theorem d_M_init_162 : decode b_M_init 162 = .ok (.iconst 4, 1) := by decide +kernel
theorem d_M_init_163 : decode b_M_init 163 = .ok (.newarray .boolean, 2) := by decide +kernel
theorem d_M_init_165 : decode b_M_init 165 = .ok (.putfield 72, 3) := by decide +kernel
theorem d_M_init_168 : decode b_M_init 168 = .ok (.aload_n 0, 1) := by decide +kernel
theorem d_M_init_169 : decode b_M_init 169 = .ok (.iconst 4, 1) := by decide +kernel
theorem d_M_init_170 : decode b_M_init 170 = .ok (.newarray .long, 2) := by decide +kernel
theorem d_M_init_172 : decode b_M_init 172 = .ok (.putfield 75, 3) := by decide +kernel
theorem d_M_init_175 : decode b_M_init 175 = .ok (.aload_n 0, 1) := by decide +kernel
theorem d_M_init_176 : decode b_M_init 176 = .ok (.iconst 4, 1) := by decide +kernel
theorem d_M_init_177 : decode b_M_init 177 = .ok (.newarray .long, 2) := by decide +kernel
theorem d_M_init_179 : decode b_M_init 179 = .ok (.putfield 78, 3) := by decide +kernel
theorem d_M_init_182 : decode b_M_init 182 = .ok (.return_, 1) := by decide +kernel
theorem d_M_within_0 : decode b_M_within 0 = .ok (.iload_n 0, 1) := by decide +kernel
theorem d_M_within_1 : decode b_M_within 1 = .ok (.iload_n 1, 1) := by decide +kernel
theorem d_M_within_2 : decode b_M_within 2 = .ok (.if_icmp .lt 12, 3) := by decide +kernel
theorem d_M_within_5 : decode b_M_within 5 = .ok (.iload_n 0, 1) := by decide +kernel
theorem d_M_within_6 : decode b_M_within 6 = .ok (.iload_n 2, 1) := by decide +kernel
theorem d_M_within_7 : decode b_M_within 7 = .ok (.if_icmp .gt 7, 3) := by decide +kernel
theorem d_M_within_10 : decode b_M_within 10 = .ok (.iconst 1, 1) := by decide +kernel
theorem d_M_within_11 : decode b_M_within 11 = .ok (.goto 4, 3) := by decide +kernel
theorem d_M_within_14 : decode b_M_within 14 = .ok (.iconst 0, 1) := by decide +kernel
theorem d_M_within_15 : decode b_M_within 15 = .ok (.ireturn, 1) := by decide +kernel
theorem d_M_line_0 : decode b_M_line 0 = .ok (.iload_n 1, 1) := by decide +kernel
theorem d_M_line_1 : decode b_M_line 1 = .ok (.iconst 0, 1) := by decide +kernel
theorem d_M_line_2 : decode b_M_line 2 = .ok (.iconst 3, 1) := by decide +kernel
theorem d_M_line_3 : decode b_M_line 3 = .ok (.invokestatic 81, 3) := by decide +kernel
theorem d_M_line_6 : decode b_M_line 6 = .ok (.ifCond .eq 38, 3) := by decide +kernel
theorem d_M_line_9 : decode b_M_line 9 = .ok (.iload_n 2, 1) := by decide +kernel
theorem d_M_line_10 : decode b_M_line 10 = .ok (.iconst 0, 1) := by decide +kernel
theorem d_M_line_11 : decode b_M_line 11 = .ok (.iconst 3, 1) := by decide +kernel
theorem d_M_line_12 : decode b_M_line 12 = .ok (.invokestatic 81, 3) := by decide +kernel
theorem d_M_line_15 : decode b_M_line 15 = .ok (.ifCond .eq 29, 3) := by decide +kernel
theorem d_M_line_18 : decode b_M_line 18 = .ok (.iload_n 1, 1) := by decide +kernel
theorem d_M_line_19 : decode b_M_line 19 = .ok (.iload_n 2, 1) := by decide +kernel
theorem d_M_line_20 : decode b_M_line 20 = .ok (.if_icmp .eq 24, 3) := by decide +kernel
theorem d_M_line_23 : decode b_M_line 23 = .ok (.iload_n 3, 1) := by decide +kernel
theorem d_M_line_24 : decode b_M_line 24 = .ok (.iconst 1, 1) := by decide +kernel
theorem d_M_line_25 : decode b_M_line 25 = .ok (.iconst 5, 1) := by decide +kernel
theorem d_M_line_26 : decode b_M_line 26 = .ok (.invokestatic 81, 3) := by decide +kernel
theorem d_M_line_29 : decode b_M_line 29 = .ok (.ifCond .eq 15, 3) := by decide +kernel
theorem d_M_line_32 : decode b_M_line 32 = .ok (.iload 4, 2) := by decide +kernel
theorem d_M_line_34 : decode b_M_line 34 = .ok (.iconst 0, 1) := by decide +kernel
theorem d_M_line_35 : decode b_M_line 35 = .ok (.sipush 1000, 3) := by decide +kernel
theorem d_M_line_38 : decode b_M_line 38 = .ok (.invokestatic 81, 3) := by decide +kernel
theorem d_M_line_41 : decode b_M_line 41 = .ok (.ifCond .ne 6, 3) := by decide +kernel
theorem d_M_line_44 : decode b_M_line 44 = .ok (.ldc 85, 2) := by decide +kernel
theorem d_M_line_46 : decode b_M_line 46 = .ok (.ireturn, 1) := by decide +kernel
theorem d_M_line_47 : decode b_M_line 47 = .ok (.iconst 0, 1) := by decide +kernel
theorem d_M_line_48 : decode b_M_line 48 = .ok (.istore 5, 2) := by decide +kernel
theorem d_M_line_50 : decode b_M_line 50 = .ok (.iload 5, 2) := by decide +kernel
theorem d_M_line_52 : decode b_M_line 52 = .ok (.aload_n 0, 1) := by decide +kernel
theorem d_M_line_53 : decode b_M_line 53 = .ok (.getfield 86, 3) := by decide +kernel
theorem d_M_line_56 : decode b_M_line 56 = .ok (.if_icmp .ge 56, 3) := by decide +kernel
theorem d_M_line_59 : decode b_M_line 59 = .ok (.aload_n 0, 1) := by decide +kernel
theorem d_M_line_60 : decode b_M_line 60 = .ok (.getfield 7, 3) := by decide +kernel
theorem d_M_line_63 : decode b_M_line 63 = .ok (.iload 5, 2) := by decide +kernel
theorem d_M_line_65 : decode b_M_line 65 = .ok (.iaload, 1) := by decide +kernel
theorem d_M_line_66 : decode b_M_line 66 = .ok (.iload_n 1, 1) := by decide +kernel
theorem d_M_line_67 : decode b_M_line 67 = .ok (.if_icmp .ne 14, 3) := by decide +kernel
theorem d_M_line_70 : decode b_M_line 70 = .ok (.aload_n 0, 1) := by decide +kernel
theorem d_M_line_71 : decode b_M_line 71 = .ok (.getfield 13, 3) := by decide +kernel
theorem d_M_line_74 : decode b_M_line 74 = .ok (.iload 5, 2) := by decide +kernel
theorem d_M_line_76 : decode b_M_line 76 = .ok (.iaload, 1) := by decide +kernel
theorem d_M_line_77 : decode b_M_line 77 = .ok (.iload_n 2, 1) := by decide +kernel
theorem d_M_line_78 : decode b_M_line 78 = .ok (.if_icmp .eq 25, 3) := by decide +kernel
theorem d_M_line_81 : decode b_M_line 81 = .ok (.aload_n 0, 1) := by decide +kernel
theorem d_M_line_82 : decode b_M_line 82 = .ok (.getfield 7, 3) := by decide +kernel
theorem d_M_line_85 : decode b_M_line 85 = .ok (.iload 5, 2) := by decide +kernel
theorem d_M_line_87 : decode b_M_line 87 = .ok (.iaload, 1) := by decide +kernel
theorem d_M_line_88 : decode b_M_line 88 = .ok (.iload_n 2, 1) := by decide +kernel
theorem d_M_line_89 : decode b_M_line 89 = .ok (.if_icmp .ne 17, 3) := by decide +kernel
theorem d_M_line_92 : decode b_M_line 92 = .ok (.aload_n 0, 1) := by decide +kernel
theorem d_M_line_93 : decode b_M_line 93 = .ok (.getfield 13, 3) := by decide +kernel
theorem d_M_line_96 : decode b_M_line 96 = .ok (.iload 5, 2) := by decide +kernel
theorem d_M_line_98 : decode b_M_line 98 = .ok (.iaload, 1) := by decide +kernel
theorem d_M_line_99 : decode b_M_line 99 = .ok (.iload_n 1, 1) := by decide +kernel
theorem d_M_line_100 : decode b_M_line 100 = .ok (.if_icmp .ne 6, 3) := by decide +kernel
theorem d_M_line_103 : decode b_M_line 103 = .ok (.ldc 85, 2) := by decide +kernel
theorem d_M_line_105 : decode b_M_line 105 = .ok (.ireturn, 1) := by decide +kernel
theorem d_M_line_106 : decode b_M_line 106 = .ok (.iinc 5 1, 3) := by decide +kernel
theorem d_M_line_109 : decode b_M_line 109 = .ok (.goto (-59), 3) := by decide +kernel
theorem d_M_line_112 : decode b_M_line 112 = .ok (.aload_n 0, 1) := by decide +kernel
theorem d_M_line_113 : decode b_M_line 113 = .ok (.getfield 7, 3) := by decide +kernel
theorem d_M_line_116 : decode b_M_line 116 = .ok (.aload_n 0, 1) := by decide +kernel
theorem d_M_line_117 : decode b_M_line 117 = .ok (.getfield 86, 3) := by decide +kernel
theorem d_M_line_120 : decode b_M_line 120 = .ok (.iload_n 1, 1) := by decide +kernel
theorem d_M_line_121 : decode b_M_line 121 = .ok (.iastore, 1) := by decide +kernel
theorem d_M_line_122 : decode b_M_line 122 = .ok (.aload_n 0, 1) := by decide +kernel
theorem d_M_line_123 : decode b_M_line 123 = .ok (.getfield 13, 3) := by decide +kernel
theorem d_M_line_126 : decode b_M_line 126 = .ok (.aload_n 0, 1) := by decide +kernel
theorem d_M_line_127 : decode b_M_line 127 = .ok (.getfield 86, 3) := by decide +kernel
theorem d_M_line_130 : decode b_M_line 130 = .ok (.iload_n 2, 1) := by decide +kernel
theorem d_M_line_131 : decode b_M_line 131 = .ok (.iastore, 1) := by decide +kernel
theorem d_M_line_132 : decode b_M_line 132 = .ok (.aload_n 0, 1) := by decide +kernel
theorem d_M_line_133 : decode b_M_line 133 = .ok (.getfield 16, 3) := by decide +kernel
theorem d_M_line_136 : decode b_M_line 136 = .ok (.aload_n 0, 1) := by decide +kernel
theorem d_M_line_137 : decode b_M_line 137 = .ok (.getfield 86, 3) := by decide +kernel
theorem d_M_line_140 : decode b_M_line 140 = .ok (.iload_n 3, 1) := by decide +kernel
theorem d_M_line_141 : decode b_M_line 141 = .ok (.iastore, 1) := by decide +kernel
theorem d_M_line_142 : decode b_M_line 142 = .ok (.aload_n 0, 1) := by decide +kernel
theorem d_M_line_143 : decode b_M_line 143 = .ok (.getfield 19, 3) := by decide +kernel
theorem d_M_line_146 : decode b_M_line 146 = .ok (.aload_n 0, 1) := by decide +kernel
theorem d_M_line_147 : decode b_M_line 147 = .ok (.getfield 86, 3) := by decide +kernel
theorem d_M_line_150 : decode b_M_line 150 = .ok (.iload 4, 2) := by decide +kernel
theorem d_M_line_152 : decode b_M_line 152 = .ok (.iastore, 1) := by decide +kernel
theorem d_M_line_153 : decode b_M_line 153 = .ok (.aload_n 0, 1) := by decide +kernel
theorem d_M_line_154 : decode b_M_line 154 = .ok (.dup, 1) := by decide +kernel
theorem d_M_line_155 : decode b_M_line 155 = .ok (.getfield 86, 3) := by decide +kernel
theorem d_M_line_158 : decode b_M_line 158 = .ok (.iconst 1, 1) := by decide +kernel
theorem d_M_line_159 : decode b_M_line 159 = .ok (.iadd, 1) := by decide +kernel
theorem d_M_line_160 : decode b_M_line 160 = .ok (.putfield 86, 3) := by decide +kernel
theorem d_M_line_163 : decode b_M_line 163 = .ok (.aload_n 0, 1) := by decide +kernel
theorem d_M_line_164 : decode b_M_line 164 = .ok (.iconst 0, 1) := by decide +kernel
theorem d_M_line_165 : decode b_M_line 165 = .ok (.putfield 90, 3) := by decide +kernel
theorem d_M_line_168 : decode b_M_line 168 = .ok (.aload_n 0, 1) := by decide +kernel
theorem d_M_line_169 : decode b_M_line 169 = .ok (.getfield 86, 3) := by decide +kernel
theorem d_M_line_172 : decode b_M_line 172 = .ok (.iconst 1, 1) := by decide +kernel
theorem d_M_line_173 : decode b_M_line 173 = .ok (.isub, 1) := by decide +kernel
theorem d_M_line_174 : decode b_M_line 174 = .ok (.ireturn, 1) := by decide +kernel
theorem d_M_limit_0 : decode b_M_limit 0 = .ok (.iload_n 1, 1) := by decide +kernel
theorem d_M_limit_1 : decode b_M_limit 1 = .ok (.iconst 0, 1) := by decide +kernel
theorem d_M_limit_2 : decode b_M_limit 2 = .ok (.aload_n 0, 1) := by decide +kernel
theorem d_M_limit_3 : decode b_M_limit 3 = .ok (.getfield 86, 3) := by decide +kernel
theorem d_M_limit_6 : decode b_M_limit 6 = .ok (.iconst 1, 1) := by decide +kernel
theorem d_M_limit_7 : decode b_M_limit 7 = .ok (.isub, 1) := by decide +kernel
theorem d_M_limit_8 : decode b_M_limit 8 = .ok (.invokestatic 81, 3) := by decide +kernel
theorem d_M_limit_11 : decode b_M_limit 11 = .ok (.ifCond .eq 14, 3) := by decide +kernel
theorem d_M_limit_14 : decode b_M_limit 14 = .ok (.iload_n 2, 1) := by decide +kernel
theorem d_M_limit_15 : decode b_M_limit 15 = .ok (.iconst 0, 1) := by decide +kernel
theorem d_M_limit_16 : decode b_M_limit 16 = .ok (.sipush 1000, 3) := by decide +kernel
theorem d_M_limit_19 : decode b_M_limit 19 = .ok (.invokestatic 81, 3) := by decide +kernel
theorem d_M_limit_22 : decode b_M_limit 22 = .ok (.ifCond .ne 5, 3) := by decide +kernel
theorem d_M_limit_25 : decode b_M_limit 25 = .ok (.iconst 0, 1) := by decide +kernel
theorem d_M_limit_26 : decode b_M_limit 26 = .ok (.ireturn, 1) := by decide +kernel
theorem d_M_limit_27 : decode b_M_limit 27 = .ok (.aload_n 0, 1) := by decide +kernel
theorem d_M_limit_28 : decode b_M_limit 28 = .ok (.getfield 19, 3) := by decide +kernel
theorem d_M_limit_31 : decode b_M_limit 31 = .ok (.iload_n 1, 1) := by decide +kernel
theorem d_M_limit_32 : decode b_M_limit 32 = .ok (.iload_n 2, 1) := by decide +kernel
theorem d_M_limit_33 : decode b_M_limit 33 = .ok (.iastore, 1) := by decide +kernel
theorem d_M_limit_34 : decode b_M_limit 34 = .ok (.aload_n 0, 1) := by decide +kernel
theorem d_M_limit_35 : decode b_M_limit 35 = .ok (.iconst 0, 1) := by decide +kernel
theorem d_M_limit_36 : decode b_M_limit 36 = .ok (.putfield 90, 3) := by decide +kernel
theorem d_M_limit_39 : decode b_M_limit 39 = .ok (.iconst 1, 1) := by decide +kernel
theorem d_M_limit_40 : decode b_M_limit 40 = .ok (.ireturn, 1) := by decide +kernel
theorem d_M_cut_0 : decode b_M_cut 0 = .ok (.iload_n 1, 1) := by decide +kernel
theorem d_M_cut_1 : decode b_M_cut 1 = .ok (.iconst 0, 1) := by decide +kernel
theorem d_M_cut_2 : decode b_M_cut 2 = .ok (.aload_n 0, 1) := by decide +kernel
theorem d_M_cut_3 : decode b_M_cut 3 = .ok (.getfield 86, 3) := by decide +kernel
theorem d_M_cut_6 : decode b_M_cut 6 = .ok (.iconst 1, 1) := by decide +kernel
theorem d_M_cut_7 : decode b_M_cut 7 = .ok (.isub, 1) := by decide +kernel
theorem d_M_cut_8 : decode b_M_cut 8 = .ok (.invokestatic 81, 3) := by decide +kernel
theorem d_M_cut_11 : decode b_M_cut 11 = .ok (.ifCond .ne 5, 3) := by decide +kernel
theorem d_M_cut_14 : decode b_M_cut 14 = .ok (.iconst 0, 1) := by decide +kernel
theorem d_M_cut_15 : decode b_M_cut 15 = .ok (.ireturn, 1) := by decide +kernel
theorem d_M_cut_16 : decode b_M_cut 16 = .ok (.aload_n 0, 1) := by decide +kernel
theorem d_M_cut_17 : decode b_M_cut 17 = .ok (.dup, 1) := by decide +kernel
theorem d_M_cut_18 : decode b_M_cut 18 = .ok (.getfield 86, 3) := by decide +kernel
theorem d_M_cut_21 : decode b_M_cut 21 = .ok (.iconst 1, 1) := by decide +kernel
theorem d_M_cut_22 : decode b_M_cut 22 = .ok (.isub, 1) := by decide +kernel
theorem d_M_cut_23 : decode b_M_cut 23 = .ok (.putfield 86, 3) := by decide +kernel
theorem d_M_cut_26 : decode b_M_cut 26 = .ok (.iload_n 1, 1) := by decide +kernel
theorem d_M_cut_27 : decode b_M_cut 27 = .ok (.istore_n 2, 1) := by decide +kernel
theorem d_M_cut_28 : decode b_M_cut 28 = .ok (.iload_n 2, 1) := by decide +kernel
theorem d_M_cut_29 : decode b_M_cut 29 = .ok (.aload_n 0, 1) := by decide +kernel
theorem d_M_cut_30 : decode b_M_cut 30 = .ok (.getfield 86, 3) := by decide +kernel
theorem d_M_cut_33 : decode b_M_cut 33 = .ok (.if_icmp .ge 65, 3) := by decide +kernel
theorem d_M_cut_36 : decode b_M_cut 36 = .ok (.aload_n 0, 1) := by decide +kernel
theorem d_M_cut_37 : decode b_M_cut 37 = .ok (.getfield 7, 3) := by decide +kernel
theorem d_M_cut_40 : decode b_M_cut 40 = .ok (.iload_n 2, 1) := by decide +kernel
theorem d_M_cut_41 : decode b_M_cut 41 = .ok (.aload_n 0, 1) := by decide +kernel
theorem d_M_cut_42 : decode b_M_cut 42 = .ok (.getfield 7, 3) := by decide +kernel
theorem d_M_cut_45 : decode b_M_cut 45 = .ok (.iload_n 2, 1) := by decide +kernel
theorem d_M_cut_46 : decode b_M_cut 46 = .ok (.iconst 1, 1) := by decide +kernel
theorem d_M_cut_47 : decode b_M_cut 47 = .ok (.iadd, 1) := by decide +kernel
theorem d_M_cut_48 : decode b_M_cut 48 = .ok (.iaload, 1) := by decide +kernel
theorem d_M_cut_49 : decode b_M_cut 49 = .ok (.iastore, 1) := by decide +kernel
theorem d_M_cut_50 : decode b_M_cut 50 = .ok (.aload_n 0, 1) := by decide +kernel
theorem d_M_cut_51 : decode b_M_cut 51 = .ok (.getfield 13, 3) := by decide +kernel
theorem d_M_cut_54 : decode b_M_cut 54 = .ok (.iload_n 2, 1) := by decide +kernel
theorem d_M_cut_55 : decode b_M_cut 55 = .ok (.aload_n 0, 1) := by decide +kernel
theorem d_M_cut_56 : decode b_M_cut 56 = .ok (.getfield 13, 3) := by decide +kernel
theorem d_M_cut_59 : decode b_M_cut 59 = .ok (.iload_n 2, 1) := by decide +kernel
theorem d_M_cut_60 : decode b_M_cut 60 = .ok (.iconst 1, 1) := by decide +kernel
theorem d_M_cut_61 : decode b_M_cut 61 = .ok (.iadd, 1) := by decide +kernel
theorem d_M_cut_62 : decode b_M_cut 62 = .ok (.iaload, 1) := by decide +kernel
theorem d_M_cut_63 : decode b_M_cut 63 = .ok (.iastore, 1) := by decide +kernel
theorem d_M_cut_64 : decode b_M_cut 64 = .ok (.aload_n 0, 1) := by decide +kernel
theorem d_M_cut_65 : decode b_M_cut 65 = .ok (.getfield 16, 3) := by decide +kernel
theorem d_M_cut_68 : decode b_M_cut 68 = .ok (.iload_n 2, 1) := by decide +kernel
theorem d_M_cut_69 : decode b_M_cut 69 = .ok (.aload_n 0, 1) := by decide +kernel
theorem d_M_cut_70 : decode b_M_cut 70 = .ok (.getfield 16, 3) := by decide +kernel
theorem d_M_cut_73 : decode b_M_cut 73 = .ok (.iload_n 2, 1) := by decide +kernel
theorem d_M_cut_74 : decode b_M_cut 74 = .ok (.iconst 1, 1) := by decide +kernel
theorem d_M_cut_75 : decode b_M_cut 75 = .ok (.iadd, 1) := by decide +kernel
theorem d_M_cut_76 : decode b_M_cut 76 = .ok (.iaload, 1) := by decide +kernel
theorem d_M_cut_77 : decode b_M_cut 77 = .ok (.iastore, 1) := by decide +kernel
theorem d_M_cut_78 : decode b_M_cut 78 = .ok (.aload_n 0, 1) := by decide +kernel
theorem d_M_cut_79 : decode b_M_cut 79 = .ok (.getfield 19, 3) := by decide +kernel
theorem d_M_cut_82 : decode b_M_cut 82 = .ok (.iload_n 2, 1) := by decide +kernel
theorem d_M_cut_83 : decode b_M_cut 83 = .ok (.aload_n 0, 1) := by decide +kernel
theorem d_M_cut_84 : decode b_M_cut 84 = .ok (.getfield 19, 3) := by decide +kernel
theorem d_M_cut_87 : decode b_M_cut 87 = .ok (.iload_n 2, 1) := by decide +kernel
theorem d_M_cut_88 : decode b_M_cut 88 = .ok (.iconst 1, 1) := by decide +kernel
theorem d_M_cut_89 : decode b_M_cut 89 = .ok (.iadd, 1) := by decide +kernel
theorem d_M_cut_90 : decode b_M_cut 90 = .ok (.iaload, 1) := by decide +kernel
theorem d_M_cut_91 : decode b_M_cut 91 = .ok (.iastore, 1) := by decide +kernel
theorem d_M_cut_92 : decode b_M_cut 92 = .ok (.iinc 2 1, 3) := by decide +kernel
theorem d_M_cut_95 : decode b_M_cut 95 = .ok (.goto (-67), 3) := by decide +kernel
theorem d_M_cut_98 : decode b_M_cut 98 = .ok (.aload_n 0, 1) := by decide +kernel
theorem d_M_cut_99 : decode b_M_cut 99 = .ok (.iconst 0, 1) := by decide +kernel
theorem d_M_cut_100 : decode b_M_cut 100 = .ok (.putfield 90, 3) := by decide +kernel
theorem d_M_cut_103 : decode b_M_cut 103 = .ok (.iconst 1, 1) := by decide +kernel
theorem d_M_cut_104 : decode b_M_cut 104 = .ok (.ireturn, 1) := by decide +kernel
theorem d_M_step_0 : decode b_M_step 0 = .ok (.iload_n 2, 1) := by decide +kernel
theorem d_M_step_1 : decode b_M_step 1 = .ok (.iconst 0, 1) := by decide +kernel
theorem d_M_step_2 : decode b_M_step 2 = .ok (.iconst 3, 1) := by decide +kernel
theorem d_M_step_3 : decode b_M_step 3 = .ok (.invokestatic 81, 3) := by decide +kernel
theorem d_M_step_6 : decode b_M_step 6 = .ok (.ifCond .eq 35, 3) := by decide +kernel
theorem d_M_step_9 : decode b_M_step 9 = .ok (.iload_n 3, 1) := by decide +kernel
theorem d_M_step_10 : decode b_M_step 10 = .ok (.iconst 0, 1) := by decide +kernel
theorem d_M_step_11 : decode b_M_step 11 = .ok (.sipush 1000, 3) := by decide +kernel
theorem d_M_step_14 : decode b_M_step 14 = .ok (.invokestatic 81, 3) := by decide +kernel
theorem d_M_step_17 : decode b_M_step 17 = .ok (.ifCond .eq 24, 3) := by decide +kernel
theorem d_M_step_20 : decode b_M_step 20 = .ok (.iload 4, 2) := by decide +kernel
theorem d_M_step_22 : decode b_M_step 22 = .ok (.iconst 1, 1) := by decide +kernel
theorem d_M_step_23 : decode b_M_step 23 = .ok (.sipush 1000, 3) := by decide +kernel
theorem d_M_step_26 : decode b_M_step 26 = .ok (.invokestatic 81, 3) := by decide +kernel
theorem d_M_step_29 : decode b_M_step 29 = .ok (.ifCond .eq 12, 3) := by decide +kernel
theorem d_M_step_32 : decode b_M_step 32 = .ok (.aload_n 0, 1) := by decide +kernel
theorem d_M_step_33 : decode b_M_step 33 = .ok (.getfield 94, 3) := by decide +kernel
theorem d_M_step_36 : decode b_M_step 36 = .ok (.bipush 8, 2) := by decide +kernel
theorem d_M_step_38 : decode b_M_step 38 = .ok (.if_icmp .ne 6, 3) := by decide +kernel
theorem d_M_step_41 : decode b_M_step 41 = .ok (.ldc 85, 2) := by decide +kernel
theorem d_M_step_43 : decode b_M_step 43 = .ok (.ireturn, 1) := by decide +kernel
theorem d_M_step_44 : decode b_M_step 44 = .ok (.aload_n 0, 1) := by decide +kernel
theorem d_M_step_45 : decode b_M_step 45 = .ok (.getfield 22, 3) := by decide +kernel
theorem d_M_step_48 : decode b_M_step 48 = .ok (.aload_n 0, 1) := by decide +kernel
theorem d_M_step_49 : decode b_M_step 49 = .ok (.getfield 94, 3) := by decide +kernel
theorem d_M_step_52 : decode b_M_step 52 = .ok (.iload_n 1, 1) := by decide +kernel
theorem d_M_step_53 : decode b_M_step 53 = .ok (.bastore, 1) := by decide +kernel
theorem d_M_step_54 : decode b_M_step 54 = .ok (.aload_n 0, 1) := by decide +kernel
theorem d_M_step_55 : decode b_M_step 55 = .ok (.getfield 26, 3) := by decide +kernel
theorem d_M_step_58 : decode b_M_step 58 = .ok (.aload_n 0, 1) := by decide +kernel
theorem d_M_step_59 : decode b_M_step 59 = .ok (.getfield 94, 3) := by decide +kernel
theorem d_M_step_62 : decode b_M_step 62 = .ok (.iload_n 2, 1) := by decide +kernel
theorem d_M_step_63 : decode b_M_step 63 = .ok (.iastore, 1) := by decide +kernel
theorem d_M_step_64 : decode b_M_step 64 = .ok (.aload_n 0, 1) := by decide +kernel
theorem d_M_step_65 : decode b_M_step 65 = .ok (.getfield 29, 3) := by decide +kernel
theorem d_M_step_68 : decode b_M_step 68 = .ok (.aload_n 0, 1) := by decide +kernel
theorem d_M_step_69 : decode b_M_step 69 = .ok (.getfield 94, 3) := by decide +kernel
theorem d_M_step_72 : decode b_M_step 72 = .ok (.iload_n 3, 1) := by decide +kernel
theorem d_M_step_73 : decode b_M_step 73 = .ok (.iastore, 1) := by decide +kernel
theorem d_M_step_74 : decode b_M_step 74 = .ok (.aload_n 0, 1) := by decide +kernel
theorem d_M_step_75 : decode b_M_step 75 = .ok (.getfield 32, 3) := by decide +kernel
theorem d_M_step_78 : decode b_M_step 78 = .ok (.aload_n 0, 1) := by decide +kernel
theorem d_M_step_79 : decode b_M_step 79 = .ok (.getfield 94, 3) := by decide +kernel
theorem d_M_step_82 : decode b_M_step 82 = .ok (.iload 4, 2) := by decide +kernel
theorem d_M_step_84 : decode b_M_step 84 = .ok (.iastore, 1) := by decide +kernel
theorem d_M_step_85 : decode b_M_step 85 = .ok (.aload_n 0, 1) := by decide +kernel
theorem d_M_step_86 : decode b_M_step 86 = .ok (.dup, 1) := by decide +kernel
theorem d_M_step_87 : decode b_M_step 87 = .ok (.getfield 94, 3) := by decide +kernel
theorem d_M_step_90 : decode b_M_step 90 = .ok (.iconst 1, 1) := by decide +kernel
theorem d_M_step_91 : decode b_M_step 91 = .ok (.iadd, 1) := by decide +kernel
theorem d_M_step_92 : decode b_M_step 92 = .ok (.putfield 94, 3) := by decide +kernel
theorem d_M_step_95 : decode b_M_step 95 = .ok (.aload_n 0, 1) := by decide +kernel
theorem d_M_step_96 : decode b_M_step 96 = .ok (.iconst 0, 1) := by decide +kernel
theorem d_M_step_97 : decode b_M_step 97 = .ok (.putfield 90, 3) := by decide +kernel
theorem d_M_step_100 : decode b_M_step 100 = .ok (.aload_n 0, 1) := by decide +kernel
theorem d_M_step_101 : decode b_M_step 101 = .ok (.getfield 94, 3) := by decide +kernel
theorem d_M_step_104 : decode b_M_step 104 = .ok (.iconst 1, 1) := by decide +kernel
theorem d_M_step_105 : decode b_M_step 105 = .ok (.isub, 1) := by decide +kernel
theorem d_M_step_106 : decode b_M_step 106 = .ok (.ireturn, 1) := by decide +kernel
theorem d_M_bid_0 : decode b_M_bid 0 = .ok (.aload_n 0, 1) := by decide +kernel
theorem d_M_bid_1 : decode b_M_bid 1 = .ok (.iconst 1, 1) := by decide +kernel
theorem d_M_bid_2 : decode b_M_bid 2 = .ok (.iload_n 1, 1) := by decide +kernel
theorem d_M_bid_3 : decode b_M_bid 3 = .ok (.iload_n 2, 1) := by decide +kernel
theorem d_M_bid_4 : decode b_M_bid 4 = .ok (.iload_n 3, 1) := by decide +kernel
theorem d_M_bid_5 : decode b_M_bid 5 = .ok (.invokevirtual 97, 3) := by decide +kernel
theorem d_M_bid_8 : decode b_M_bid 8 = .ok (.ireturn, 1) := by decide +kernel
theorem d_M_offer_0 : decode b_M_offer 0 = .ok (.aload_n 0, 1) := by decide +kernel
theorem d_M_offer_1 : decode b_M_offer 1 = .ok (.iconst 0, 1) := by decide +kernel
theorem d_M_offer_2 : decode b_M_offer 2 = .ok (.iload_n 1, 1) := by decide +kernel
theorem d_M_offer_3 : decode b_M_offer 3 = .ok (.iload_n 2, 1) := by decide +kernel
theorem d_M_offer_4 : decode b_M_offer 4 = .ok (.iload_n 3, 1) := by decide +kernel
theorem d_M_offer_5 : decode b_M_offer 5 = .ok (.invokevirtual 97, 3) := by decide +kernel
theorem d_M_offer_8 : decode b_M_offer 8 = .ok (.ireturn, 1) := by decide +kernel
theorem d_M_cancel_0 : decode b_M_cancel 0 = .ok (.iload_n 1, 1) := by decide +kernel
theorem d_M_cancel_1 : decode b_M_cancel 1 = .ok (.iconst 0, 1) := by decide +kernel
theorem d_M_cancel_2 : decode b_M_cancel 2 = .ok (.aload_n 0, 1) := by decide +kernel
theorem d_M_cancel_3 : decode b_M_cancel 3 = .ok (.getfield 94, 3) := by decide +kernel
theorem d_M_cancel_6 : decode b_M_cancel 6 = .ok (.iconst 1, 1) := by decide +kernel
theorem d_M_cancel_7 : decode b_M_cancel 7 = .ok (.isub, 1) := by decide +kernel
theorem d_M_cancel_8 : decode b_M_cancel 8 = .ok (.invokestatic 81, 3) := by decide +kernel
theorem d_M_cancel_11 : decode b_M_cancel 11 = .ok (.ifCond .ne 5, 3) := by decide +kernel
theorem d_M_cancel_14 : decode b_M_cancel 14 = .ok (.iconst 0, 1) := by decide +kernel
theorem d_M_cancel_15 : decode b_M_cancel 15 = .ok (.ireturn, 1) := by decide +kernel
theorem d_M_cancel_16 : decode b_M_cancel 16 = .ok (.aload_n 0, 1) := by decide +kernel
theorem d_M_cancel_17 : decode b_M_cancel 17 = .ok (.dup, 1) := by decide +kernel
theorem d_M_cancel_18 : decode b_M_cancel 18 = .ok (.getfield 94, 3) := by decide +kernel
theorem d_M_cancel_21 : decode b_M_cancel 21 = .ok (.iconst 1, 1) := by decide +kernel
theorem d_M_cancel_22 : decode b_M_cancel 22 = .ok (.isub, 1) := by decide +kernel
theorem d_M_cancel_23 : decode b_M_cancel 23 = .ok (.putfield 94, 3) := by decide +kernel
theorem d_M_cancel_26 : decode b_M_cancel 26 = .ok (.iload_n 1, 1) := by decide +kernel
theorem d_M_cancel_27 : decode b_M_cancel 27 = .ok (.istore_n 2, 1) := by decide +kernel
theorem d_M_cancel_28 : decode b_M_cancel 28 = .ok (.iload_n 2, 1) := by decide +kernel
theorem d_M_cancel_29 : decode b_M_cancel 29 = .ok (.aload_n 0, 1) := by decide +kernel
theorem d_M_cancel_30 : decode b_M_cancel 30 = .ok (.getfield 94, 3) := by decide +kernel
theorem d_M_cancel_33 : decode b_M_cancel 33 = .ok (.if_icmp .ge 65, 3) := by decide +kernel
theorem d_M_cancel_36 : decode b_M_cancel 36 = .ok (.aload_n 0, 1) := by decide +kernel
theorem d_M_cancel_37 : decode b_M_cancel 37 = .ok (.getfield 22, 3) := by decide +kernel
theorem d_M_cancel_40 : decode b_M_cancel 40 = .ok (.iload_n 2, 1) := by decide +kernel
theorem d_M_cancel_41 : decode b_M_cancel 41 = .ok (.aload_n 0, 1) := by decide +kernel
theorem d_M_cancel_42 : decode b_M_cancel 42 = .ok (.getfield 22, 3) := by decide +kernel
theorem d_M_cancel_45 : decode b_M_cancel 45 = .ok (.iload_n 2, 1) := by decide +kernel
theorem d_M_cancel_46 : decode b_M_cancel 46 = .ok (.iconst 1, 1) := by decide +kernel
theorem d_M_cancel_47 : decode b_M_cancel 47 = .ok (.iadd, 1) := by decide +kernel
theorem d_M_cancel_48 : decode b_M_cancel 48 = .ok (.baload, 1) := by decide +kernel
theorem d_M_cancel_49 : decode b_M_cancel 49 = .ok (.bastore, 1) := by decide +kernel
theorem d_M_cancel_50 : decode b_M_cancel 50 = .ok (.aload_n 0, 1) := by decide +kernel
theorem d_M_cancel_51 : decode b_M_cancel 51 = .ok (.getfield 26, 3) := by decide +kernel
theorem d_M_cancel_54 : decode b_M_cancel 54 = .ok (.iload_n 2, 1) := by decide +kernel
theorem d_M_cancel_55 : decode b_M_cancel 55 = .ok (.aload_n 0, 1) := by decide +kernel
theorem d_M_cancel_56 : decode b_M_cancel 56 = .ok (.getfield 26, 3) := by decide +kernel
theorem d_M_cancel_59 : decode b_M_cancel 59 = .ok (.iload_n 2, 1) := by decide +kernel
theorem d_M_cancel_60 : decode b_M_cancel 60 = .ok (.iconst 1, 1) := by decide +kernel
theorem d_M_cancel_61 : decode b_M_cancel 61 = .ok (.iadd, 1) := by decide +kernel
theorem d_M_cancel_62 : decode b_M_cancel 62 = .ok (.iaload, 1) := by decide +kernel
theorem d_M_cancel_63 : decode b_M_cancel 63 = .ok (.iastore, 1) := by decide +kernel
theorem d_M_cancel_64 : decode b_M_cancel 64 = .ok (.aload_n 0, 1) := by decide +kernel
theorem d_M_cancel_65 : decode b_M_cancel 65 = .ok (.getfield 29, 3) := by decide +kernel
theorem d_M_cancel_68 : decode b_M_cancel 68 = .ok (.iload_n 2, 1) := by decide +kernel
theorem d_M_cancel_69 : decode b_M_cancel 69 = .ok (.aload_n 0, 1) := by decide +kernel
theorem d_M_cancel_70 : decode b_M_cancel 70 = .ok (.getfield 29, 3) := by decide +kernel
theorem d_M_cancel_73 : decode b_M_cancel 73 = .ok (.iload_n 2, 1) := by decide +kernel
theorem d_M_cancel_74 : decode b_M_cancel 74 = .ok (.iconst 1, 1) := by decide +kernel
theorem d_M_cancel_75 : decode b_M_cancel 75 = .ok (.iadd, 1) := by decide +kernel
theorem d_M_cancel_76 : decode b_M_cancel 76 = .ok (.iaload, 1) := by decide +kernel
theorem d_M_cancel_77 : decode b_M_cancel 77 = .ok (.iastore, 1) := by decide +kernel
theorem d_M_cancel_78 : decode b_M_cancel 78 = .ok (.aload_n 0, 1) := by decide +kernel
theorem d_M_cancel_79 : decode b_M_cancel 79 = .ok (.getfield 32, 3) := by decide +kernel
theorem d_M_cancel_82 : decode b_M_cancel 82 = .ok (.iload_n 2, 1) := by decide +kernel
theorem d_M_cancel_83 : decode b_M_cancel 83 = .ok (.aload_n 0, 1) := by decide +kernel
theorem d_M_cancel_84 : decode b_M_cancel 84 = .ok (.getfield 32, 3) := by decide +kernel
theorem d_M_cancel_87 : decode b_M_cancel 87 = .ok (.iload_n 2, 1) := by decide +kernel
theorem d_M_cancel_88 : decode b_M_cancel 88 = .ok (.iconst 1, 1) := by decide +kernel
theorem d_M_cancel_89 : decode b_M_cancel 89 = .ok (.iadd, 1) := by decide +kernel
theorem d_M_cancel_90 : decode b_M_cancel 90 = .ok (.iaload, 1) := by decide +kernel
theorem d_M_cancel_91 : decode b_M_cancel 91 = .ok (.iastore, 1) := by decide +kernel
theorem d_M_cancel_92 : decode b_M_cancel 92 = .ok (.iinc 2 1, 3) := by decide +kernel
theorem d_M_cancel_95 : decode b_M_cancel 95 = .ok (.goto (-67), 3) := by decide +kernel
theorem d_M_cancel_98 : decode b_M_cancel 98 = .ok (.aload_n 0, 1) := by decide +kernel
theorem d_M_cancel_99 : decode b_M_cancel 99 = .ok (.iconst 0, 1) := by decide +kernel
theorem d_M_cancel_100 : decode b_M_cancel 100 = .ok (.putfield 90, 3) := by decide +kernel
theorem d_M_cancel_103 : decode b_M_cancel 103 = .ok (.iconst 1, 1) := by decide +kernel
theorem d_M_cancel_104 : decode b_M_cancel 104 = .ok (.ireturn, 1) := by decide +kernel
theorem d_M_connected_0 : decode b_M_connected 0 = .ok (.iconst 1, 1) := by decide +kernel
theorem d_M_connected_1 : decode b_M_connected 1 = .ok (.istore_n 1, 1) := by decide +kernel
theorem d_M_connected_2 : decode b_M_connected 2 = .ok (.iconst 0, 1) := by decide +kernel
theorem d_M_connected_3 : decode b_M_connected 3 = .ok (.istore_n 2, 1) := by decide +kernel
theorem d_M_connected_4 : decode b_M_connected 4 = .ok (.iload_n 2, 1) := by decide +kernel
theorem d_M_connected_5 : decode b_M_connected 5 = .ok (.iconst 3, 1) := by decide +kernel
theorem d_M_connected_6 : decode b_M_connected 6 = .ok (.if_icmp .ge 60, 3) := by decide +kernel
theorem d_M_connected_9 : decode b_M_connected 9 = .ok (.iconst 0, 1) := by decide +kernel
theorem d_M_connected_10 : decode b_M_connected 10 = .ok (.istore_n 3, 1) := by decide +kernel
theorem d_M_connected_11 : decode b_M_connected 11 = .ok (.iload_n 3, 1) := by decide +kernel
theorem d_M_connected_12 : decode b_M_connected 12 = .ok (.aload_n 0, 1) := by decide +kernel
theorem d_M_connected_13 : decode b_M_connected 13 = .ok (.getfield 86, 3) := by decide +kernel
theorem d_M_connected_16 : decode b_M_connected 16 = .ok (.if_icmp .ge 44, 3) := by decide +kernel
theorem d_M_connected_19 : decode b_M_connected 19 = .ok (.iconst 1, 1) := by decide +kernel
theorem d_M_connected_20 : decode b_M_connected 20 = .ok (.aload_n 0, 1) := by decide +kernel
theorem d_M_connected_21 : decode b_M_connected 21 = .ok (.getfield 7, 3) := by decide +kernel
theorem d_M_connected_24 : decode b_M_connected 24 = .ok (.iload_n 3, 1) := by decide +kernel
theorem d_M_connected_25 : decode b_M_connected 25 = .ok (.iaload, 1) := by decide +kernel
theorem d_M_connected_26 : decode b_M_connected 26 = .ok (.ishl, 1) := by decide +kernel
theorem d_M_connected_27 : decode b_M_connected 27 = .ok (.iconst 1, 1) := by decide +kernel
theorem d_M_connected_28 : decode b_M_connected 28 = .ok (.aload_n 0, 1) := by decide +kernel
theorem d_M_connected_29 : decode b_M_connected 29 = .ok (.getfield 13, 3) := by decide +kernel
theorem d_M_connected_32 : decode b_M_connected 32 = .ok (.iload_n 3, 1) := by decide +kernel
theorem d_M_connected_33 : decode b_M_connected 33 = .ok (.iaload, 1) := by decide +kernel
theorem d_M_connected_34 : decode b_M_connected 34 = .ok (.ishl, 1) := by decide +kernel
theorem d_M_connected_35 : decode b_M_connected 35 = .ok (.ior, 1) := by decide +kernel
theorem d_M_connected_36 : decode b_M_connected 36 = .ok (.istore 4, 2) := by decide +kernel
theorem d_M_connected_38 : decode b_M_connected 38 = .ok (.iload_n 1, 1) := by decide +kernel
theorem d_M_connected_39 : decode b_M_connected 39 = .ok (.iload 4, 2) := by decide +kernel
theorem d_M_connected_41 : decode b_M_connected 41 = .ok (.iand, 1) := by decide +kernel
theorem d_M_connected_42 : decode b_M_connected 42 = .ok (.ifCond .eq 10, 3) := by decide +kernel
theorem d_M_connected_45 : decode b_M_connected 45 = .ok (.iload_n 1, 1) := by decide +kernel
theorem d_M_connected_46 : decode b_M_connected 46 = .ok (.iload 4, 2) := by decide +kernel
theorem d_M_connected_48 : decode b_M_connected 48 = .ok (.ior, 1) := by decide +kernel
theorem d_M_connected_49 : decode b_M_connected 49 = .ok (.goto 4, 3) := by decide +kernel
theorem d_M_connected_52 : decode b_M_connected 52 = .ok (.iload_n 1, 1) := by decide +kernel
theorem d_M_connected_53 : decode b_M_connected 53 = .ok (.istore_n 1, 1) := by decide +kernel
theorem d_M_connected_54 : decode b_M_connected 54 = .ok (.iinc 3 1, 3) := by decide +kernel
theorem d_M_connected_57 : decode b_M_connected 57 = .ok (.goto (-46), 3) := by decide +kernel
theorem d_M_connected_60 : decode b_M_connected 60 = .ok (.iinc 2 1, 3) := by decide +kernel
theorem d_M_connected_63 : decode b_M_connected 63 = .ok (.goto (-59), 3) := by decide +kernel
theorem d_M_connected_66 : decode b_M_connected 66 = .ok (.iload_n 1, 1) := by decide +kernel
theorem d_M_connected_67 : decode b_M_connected 67 = .ok (.bipush 15, 2) := by decide +kernel
theorem d_M_connected_69 : decode b_M_connected 69 = .ok (.if_icmp .ne 7, 3) := by decide +kernel
theorem d_M_connected_72 : decode b_M_connected 72 = .ok (.iconst 1, 1) := by decide +kernel
theorem d_M_connected_73 : decode b_M_connected 73 = .ok (.goto 4, 3) := by decide +kernel
theorem d_M_connected_76 : decode b_M_connected 76 = .ok (.iconst 0, 1) := by decide +kernel
theorem d_M_connected_77 : decode b_M_connected 77 = .ok (.ireturn, 1) := by decide +kernel
theorem d_M_before_0 : decode b_M_before 0 = .ok (.aload_n 0, 1) := by decide +kernel
theorem d_M_before_1 : decode b_M_before 1 = .ok (.getfield 29, 3) := by decide +kernel
theorem d_M_before_4 : decode b_M_before 4 = .ok (.iload_n 1, 1) := by decide +kernel
theorem d_M_before_5 : decode b_M_before 5 = .ok (.iaload, 1) := by decide +kernel
theorem d_M_before_6 : decode b_M_before 6 = .ok (.aload_n 0, 1) := by decide +kernel
theorem d_M_before_7 : decode b_M_before 7 = .ok (.getfield 29, 3) := by decide +kernel
theorem d_M_before_10 : decode b_M_before 10 = .ok (.iload_n 2, 1) := by decide +kernel
theorem d_M_before_11 : decode b_M_before 11 = .ok (.iaload, 1) := by decide +kernel
theorem d_M_before_12 : decode b_M_before 12 = .ok (.if_icmp .eq 24, 3) := by decide +kernel
theorem d_M_before_15 : decode b_M_before 15 = .ok (.aload_n 0, 1) := by decide +kernel
theorem d_M_before_16 : decode b_M_before 16 = .ok (.getfield 29, 3) := by decide +kernel
theorem d_M_before_19 : decode b_M_before 19 = .ok (.iload_n 1, 1) := by decide +kernel
theorem d_M_before_20 : decode b_M_before 20 = .ok (.iaload, 1) := by decide +kernel
theorem d_M_before_21 : decode b_M_before 21 = .ok (.aload_n 0, 1) := by decide +kernel
theorem d_M_before_22 : decode b_M_before 22 = .ok (.getfield 29, 3) := by decide +kernel
theorem d_M_before_25 : decode b_M_before 25 = .ok (.iload_n 2, 1) := by decide +kernel
theorem d_M_before_26 : decode b_M_before 26 = .ok (.iaload, 1) := by decide +kernel
theorem d_M_before_27 : decode b_M_before 27 = .ok (.if_icmp .le 7, 3) := by decide +kernel
theorem d_M_before_30 : decode b_M_before 30 = .ok (.iconst 1, 1) := by decide +kernel
theorem d_M_before_31 : decode b_M_before 31 = .ok (.goto 4, 3) := by decide +kernel
theorem d_M_before_34 : decode b_M_before 34 = .ok (.iconst 0, 1) := by decide +kernel
theorem d_M_before_35 : decode b_M_before 35 = .ok (.ireturn, 1) := by decide +kernel
theorem d_M_before_36 : decode b_M_before 36 = .ok (.aload_n 0, 1) := by decide +kernel
theorem d_M_before_37 : decode b_M_before 37 = .ok (.getfield 22, 3) := by decide +kernel
theorem d_M_before_40 : decode b_M_before 40 = .ok (.iload_n 1, 1) := by decide +kernel
theorem d_M_before_41 : decode b_M_before 41 = .ok (.baload, 1) := by decide +kernel
theorem d_M_before_42 : decode b_M_before 42 = .ok (.aload_n 0, 1) := by decide +kernel
theorem d_M_before_43 : decode b_M_before 43 = .ok (.getfield 22, 3) := by decide +kernel
theorem d_M_before_46 : decode b_M_before 46 = .ok (.iload_n 2, 1) := by decide +kernel
theorem d_M_before_47 : decode b_M_before 47 = .ok (.baload, 1) := by decide +kernel
theorem d_M_before_48 : decode b_M_before 48 = .ok (.if_icmp .eq 10, 3) := by decide +kernel
theorem d_M_before_51 : decode b_M_before 51 = .ok (.aload_n 0, 1) := by decide +kernel
theorem d_M_before_52 : decode b_M_before 52 = .ok (.getfield 22, 3) := by decide +kernel
theorem d_M_before_55 : decode b_M_before 55 = .ok (.iload_n 1, 1) := by decide +kernel
theorem d_M_before_56 : decode b_M_before 56 = .ok (.baload, 1) := by decide +kernel
theorem d_M_before_57 : decode b_M_before 57 = .ok (.ireturn, 1) := by decide +kernel
theorem d_M_before_58 : decode b_M_before 58 = .ok (.aload_n 0, 1) := by decide +kernel
theorem d_M_before_59 : decode b_M_before 59 = .ok (.getfield 22, 3) := by decide +kernel
theorem d_M_before_62 : decode b_M_before 62 = .ok (.iload_n 1, 1) := by decide +kernel
theorem d_M_before_63 : decode b_M_before 63 = .ok (.baload, 1) := by decide +kernel
theorem d_M_before_64 : decode b_M_before 64 = .ok (.ifCond .eq 16, 3) := by decide +kernel
theorem d_M_before_67 : decode b_M_before 67 = .ok (.iload_n 1, 1) := by decide +kernel
theorem d_M_before_68 : decode b_M_before 68 = .ok (.iload_n 2, 1) := by decide +kernel
theorem d_M_before_69 : decode b_M_before 69 = .ok (.if_icmp .ge 7, 3) := by decide +kernel
theorem d_M_before_72 : decode b_M_before 72 = .ok (.iconst 1, 1) := by decide +kernel
theorem d_M_before_73 : decode b_M_before 73 = .ok (.goto 17, 3) := by decide +kernel
theorem d_M_before_76 : decode b_M_before 76 = .ok (.iconst 0, 1) := by decide +kernel
theorem d_M_before_77 : decode b_M_before 77 = .ok (.goto 13, 3) := by decide +kernel
theorem d_M_before_80 : decode b_M_before 80 = .ok (.iload_n 1, 1) := by decide +kernel
theorem d_M_before_81 : decode b_M_before 81 = .ok (.iload_n 2, 1) := by decide +kernel
theorem d_M_before_82 : decode b_M_before 82 = .ok (.if_icmp .le 7, 3) := by decide +kernel
theorem d_M_before_85 : decode b_M_before 85 = .ok (.iconst 1, 1) := by decide +kernel
theorem d_M_before_86 : decode b_M_before 86 = .ok (.goto 4, 3) := by decide +kernel
theorem d_M_before_89 : decode b_M_before 89 = .ok (.iconst 0, 1) := by decide +kernel
theorem d_M_before_90 : decode b_M_before 90 = .ok (.ireturn, 1) := by decide +kernel
theorem d_M_arrange_0 : decode b_M_arrange 0 = .ok (.iconst 0, 1) := by decide +kernel
theorem d_M_arrange_1 : decode b_M_arrange 1 = .ok (.istore_n 1, 1) := by decide +kernel
theorem d_M_arrange_2 : decode b_M_arrange 2 = .ok (.iload_n 1, 1) := by decide +kernel
theorem d_M_arrange_3 : decode b_M_arrange 3 = .ok (.aload_n 0, 1) := by decide +kernel
theorem d_M_arrange_4 : decode b_M_arrange 4 = .ok (.getfield 94, 3) := by decide +kernel
theorem d_M_arrange_7 : decode b_M_arrange 7 = .ok (.if_icmp .ge 51, 3) := by decide +kernel
theorem d_M_arrange_10 : decode b_M_arrange 10 = .ok (.iconst 0, 1) := by decide +kernel
theorem d_M_arrange_11 : decode b_M_arrange 11 = .ok (.istore_n 2, 1) := by decide +kernel
theorem d_M_arrange_12 : decode b_M_arrange 12 = .ok (.iconst 0, 1) := by decide +kernel
theorem d_M_arrange_13 : decode b_M_arrange 13 = .ok (.istore_n 3, 1) := by decide +kernel
theorem d_M_arrange_14 : decode b_M_arrange 14 = .ok (.iload_n 3, 1) := by decide +kernel
theorem d_M_arrange_15 : decode b_M_arrange 15 = .ok (.aload_n 0, 1) := by decide +kernel
theorem d_M_arrange_16 : decode b_M_arrange 16 = .ok (.getfield 94, 3) := by decide +kernel
theorem d_M_arrange_19 : decode b_M_arrange 19 = .ok (.if_icmp .ge 26, 3) := by decide +kernel
theorem d_M_arrange_22 : decode b_M_arrange 22 = .ok (.iload_n 3, 1) := by decide +kernel
theorem d_M_arrange_23 : decode b_M_arrange 23 = .ok (.iload_n 1, 1) := by decide +kernel
theorem d_M_arrange_24 : decode b_M_arrange 24 = .ok (.if_icmp .eq 15, 3) := by decide +kernel
theorem d_M_arrange_27 : decode b_M_arrange 27 = .ok (.aload_n 0, 1) := by decide +kernel
theorem d_M_arrange_28 : decode b_M_arrange 28 = .ok (.iload_n 3, 1) := by decide +kernel
theorem d_M_arrange_29 : decode b_M_arrange 29 = .ok (.iload_n 1, 1) := by decide +kernel
theorem d_M_arrange_30 : decode b_M_arrange 30 = .ok (.invokevirtual 101, 3) := by decide +kernel
theorem d_M_arrange_33 : decode b_M_arrange 33 = .ok (.ifCond .eq 6, 3) := by decide +kernel
theorem d_M_arrange_36 : decode b_M_arrange 36 = .ok (.iinc 2 1, 3) := by decide +kernel
theorem d_M_arrange_39 : decode b_M_arrange 39 = .ok (.iinc 3 1, 3) := by decide +kernel
theorem d_M_arrange_42 : decode b_M_arrange 42 = .ok (.goto (-28), 3) := by decide +kernel
theorem d_M_arrange_45 : decode b_M_arrange 45 = .ok (.aload_n 0, 1) := by decide +kernel
theorem d_M_arrange_46 : decode b_M_arrange 46 = .ok (.getfield 35, 3) := by decide +kernel
theorem d_M_arrange_49 : decode b_M_arrange 49 = .ok (.iload_n 2, 1) := by decide +kernel
theorem d_M_arrange_50 : decode b_M_arrange 50 = .ok (.iload_n 1, 1) := by decide +kernel
theorem d_M_arrange_51 : decode b_M_arrange 51 = .ok (.iastore, 1) := by decide +kernel
theorem d_M_arrange_52 : decode b_M_arrange 52 = .ok (.iinc 1 1, 3) := by decide +kernel
theorem d_M_arrange_55 : decode b_M_arrange 55 = .ok (.goto (-53), 3) := by decide +kernel
theorem d_M_arrange_58 : decode b_M_arrange 58 = .ok (.return_, 1) := by decide +kernel
theorem d_M_plane_0 : decode b_M_plane 0 = .ok (.aload_n 0, 1) := by decide +kernel
theorem d_M_plane_1 : decode b_M_plane 1 = .ok (.getfield 38, 3) := by decide +kernel
theorem d_M_plane_4 : decode b_M_plane 4 = .ok (.aload_n 0, 1) := by decide +kernel
theorem d_M_plane_5 : decode b_M_plane 5 = .ok (.getfield 105, 3) := by decide +kernel
theorem d_M_plane_8 : decode b_M_plane 8 = .ok (.aload_n 0, 1) := by decide +kernel
theorem d_M_plane_9 : decode b_M_plane 9 = .ok (.getfield 51, 3) := by decide +kernel
theorem d_M_plane_12 : decode b_M_plane 12 = .ok (.iconst 1, 1) := by decide +kernel
theorem d_M_plane_13 : decode b_M_plane 13 = .ok (.iaload, 1) := by decide +kernel
theorem d_M_plane_14 : decode b_M_plane 14 = .ok (.i2l, 1) := by decide +kernel
theorem d_M_plane_15 : decode b_M_plane 15 = .ok (.lastore, 1) := by decide +kernel
theorem d_M_plane_16 : decode b_M_plane 16 = .ok (.aload_n 0, 1) := by decide +kernel
theorem d_M_plane_17 : decode b_M_plane 17 = .ok (.getfield 42, 3) := by decide +kernel
theorem d_M_plane_20 : decode b_M_plane 20 = .ok (.aload_n 0, 1) := by decide +kernel
theorem d_M_plane_21 : decode b_M_plane 21 = .ok (.getfield 105, 3) := by decide +kernel
theorem d_M_plane_24 : decode b_M_plane 24 = .ok (.aload_n 0, 1) := by decide +kernel
theorem d_M_plane_25 : decode b_M_plane 25 = .ok (.getfield 51, 3) := by decide +kernel
theorem d_M_plane_28 : decode b_M_plane 28 = .ok (.iconst 2, 1) := by decide +kernel
theorem d_M_plane_29 : decode b_M_plane 29 = .ok (.iaload, 1) := by decide +kernel
theorem d_M_plane_30 : decode b_M_plane 30 = .ok (.i2l, 1) := by decide +kernel
theorem d_M_plane_31 : decode b_M_plane 31 = .ok (.lastore, 1) := by decide +kernel
theorem d_M_plane_32 : decode b_M_plane 32 = .ok (.aload_n 0, 1) := by decide +kernel
theorem d_M_plane_33 : decode b_M_plane 33 = .ok (.getfield 45, 3) := by decide +kernel
theorem d_M_plane_36 : decode b_M_plane 36 = .ok (.aload_n 0, 1) := by decide +kernel
theorem d_M_plane_37 : decode b_M_plane 37 = .ok (.getfield 105, 3) := by decide +kernel
theorem d_M_plane_40 : decode b_M_plane 40 = .ok (.aload_n 0, 1) := by decide +kernel
theorem d_M_plane_41 : decode b_M_plane 41 = .ok (.getfield 51, 3) := by decide +kernel
theorem d_M_plane_44 : decode b_M_plane 44 = .ok (.iconst 3, 1) := by decide +kernel
theorem d_M_plane_45 : decode b_M_plane 45 = .ok (.iaload, 1) := by decide +kernel
theorem d_M_plane_46 : decode b_M_plane 46 = .ok (.i2l, 1) := by decide +kernel
theorem d_M_plane_47 : decode b_M_plane 47 = .ok (.lastore, 1) := by decide +kernel
theorem d_M_plane_48 : decode b_M_plane 48 = .ok (.aload_n 0, 1) := by decide +kernel
theorem d_M_plane_49 : decode b_M_plane 49 = .ok (.getfield 48, 3) := by decide +kernel
theorem d_M_plane_52 : decode b_M_plane 52 = .ok (.aload_n 0, 1) := by decide +kernel
theorem d_M_plane_53 : decode b_M_plane 53 = .ok (.getfield 105, 3) := by decide +kernel
theorem d_M_plane_56 : decode b_M_plane 56 = .ok (.lload_n 1, 1) := by decide +kernel
theorem d_M_plane_57 : decode b_M_plane 57 = .ok (.lastore, 1) := by decide +kernel
theorem d_M_plane_58 : decode b_M_plane 58 = .ok (.aload_n 0, 1) := by decide +kernel
theorem d_M_plane_59 : decode b_M_plane 59 = .ok (.dup, 1) := by decide +kernel
theorem d_M_plane_60 : decode b_M_plane 60 = .ok (.getfield 105, 3) := by decide +kernel
theorem d_M_plane_63 : decode b_M_plane 63 = .ok (.iconst 1, 1) := by decide +kernel
theorem d_M_plane_64 : decode b_M_plane 64 = .ok (.iadd, 1) := by decide +kernel
theorem d_M_plane_65 : decode b_M_plane 65 = .ok (.putfield 105, 3) := by decide +kernel
theorem d_M_plane_68 : decode b_M_plane 68 = .ok (.return_, 1) := by decide +kernel
theorem d_M_linePlanes_0 : decode b_M_linePlanes 0 = .ok (.aload_n 0, 1) := by decide +kernel
theorem d_M_linePlanes_1 : decode b_M_linePlanes 1 = .ok (.iconst 0, 1) := by decide +kernel
theorem d_M_linePlanes_2 : decode b_M_linePlanes 2 = .ok (.putfield 105, 3) := by decide +kernel
theorem d_M_linePlanes_5 : decode b_M_linePlanes 5 = .ok (.iconst 0, 1) := by decide +kernel
theorem d_M_linePlanes_6 : decode b_M_linePlanes 6 = .ok (.istore_n 1, 1) := by decide +kernel
theorem d_M_linePlanes_7 : decode b_M_linePlanes 7 = .ok (.iload_n 1, 1) := by decide +kernel
theorem d_M_linePlanes_8 : decode b_M_linePlanes 8 = .ok (.aload_n 0, 1) := by decide +kernel
theorem d_M_linePlanes_9 : decode b_M_linePlanes 9 = .ok (.getfield 86, 3) := by decide +kernel
theorem d_M_linePlanes_12 : decode b_M_linePlanes 12 = .ok (.if_icmp .ge 91, 3) := by decide +kernel
theorem d_M_linePlanes_15 : decode b_M_linePlanes 15 = .ok (.iconst 0, 1) := by decide +kernel
theorem d_M_linePlanes_16 : decode b_M_linePlanes 16 = .ok (.istore_n 2, 1) := by decide +kernel
theorem d_M_linePlanes_17 : decode b_M_linePlanes 17 = .ok (.iload_n 2, 1) := by decide +kernel
theorem d_M_linePlanes_18 : decode b_M_linePlanes 18 = .ok (.iconst 4, 1) := by decide +kernel
theorem d_M_linePlanes_19 : decode b_M_linePlanes 19 = .ok (.if_icmp .ge 55, 3) := by decide +kernel
theorem d_M_linePlanes_22 : decode b_M_linePlanes 22 = .ok (.aload_n 0, 1) := by decide +kernel
theorem d_M_linePlanes_23 : decode b_M_linePlanes 23 = .ok (.getfield 51, 3) := by decide +kernel
theorem d_M_linePlanes_26 : decode b_M_linePlanes 26 = .ok (.iload_n 2, 1) := by decide +kernel
theorem d_M_linePlanes_27 : decode b_M_linePlanes 27 = .ok (.iload_n 2, 1) := by decide +kernel
theorem d_M_linePlanes_28 : decode b_M_linePlanes 28 = .ok (.aload_n 0, 1) := by decide +kernel
theorem d_M_linePlanes_29 : decode b_M_linePlanes 29 = .ok (.getfield 7, 3) := by decide +kernel
theorem d_M_linePlanes_32 : decode b_M_linePlanes 32 = .ok (.iload_n 1, 1) := by decide +kernel
theorem d_M_linePlanes_33 : decode b_M_linePlanes 33 = .ok (.iaload, 1) := by decide +kernel
theorem d_M_linePlanes_34 : decode b_M_linePlanes 34 = .ok (.if_icmp .ne 12, 3) := by decide +kernel
theorem d_M_linePlanes_37 : decode b_M_linePlanes 37 = .ok (.aload_n 0, 1) := by decide +kernel
theorem d_M_linePlanes_38 : decode b_M_linePlanes 38 = .ok (.getfield 16, 3) := by decide +kernel
theorem d_M_linePlanes_41 : decode b_M_linePlanes 41 = .ok (.iload_n 1, 1) := by decide +kernel
theorem d_M_linePlanes_42 : decode b_M_linePlanes 42 = .ok (.iaload, 1) := by decide +kernel
theorem d_M_linePlanes_43 : decode b_M_linePlanes 43 = .ok (.goto 24, 3) := by decide +kernel
theorem d_M_linePlanes_46 : decode b_M_linePlanes 46 = .ok (.iload_n 2, 1) := by decide +kernel
theorem d_M_linePlanes_47 : decode b_M_linePlanes 47 = .ok (.aload_n 0, 1) := by decide +kernel
theorem d_M_linePlanes_48 : decode b_M_linePlanes 48 = .ok (.getfield 13, 3) := by decide +kernel
theorem d_M_linePlanes_51 : decode b_M_linePlanes 51 = .ok (.iload_n 1, 1) := by decide +kernel
theorem d_M_linePlanes_52 : decode b_M_linePlanes 52 = .ok (.iaload, 1) := by decide +kernel
theorem d_M_linePlanes_53 : decode b_M_linePlanes 53 = .ok (.if_icmp .ne 13, 3) := by decide +kernel
theorem d_M_linePlanes_56 : decode b_M_linePlanes 56 = .ok (.aload_n 0, 1) := by decide +kernel
theorem d_M_linePlanes_57 : decode b_M_linePlanes 57 = .ok (.getfield 16, 3) := by decide +kernel
theorem d_M_linePlanes_60 : decode b_M_linePlanes 60 = .ok (.iload_n 1, 1) := by decide +kernel
theorem d_M_linePlanes_61 : decode b_M_linePlanes 61 = .ok (.iaload, 1) := by decide +kernel
theorem d_M_linePlanes_62 : decode b_M_linePlanes 62 = .ok (.ineg, 1) := by decide +kernel
theorem d_M_linePlanes_63 : decode b_M_linePlanes 63 = .ok (.goto 4, 3) := by decide +kernel
theorem d_M_linePlanes_66 : decode b_M_linePlanes 66 = .ok (.iconst 0, 1) := by decide +kernel
theorem d_M_linePlanes_67 : decode b_M_linePlanes 67 = .ok (.iastore, 1) := by decide +kernel
theorem d_M_linePlanes_68 : decode b_M_linePlanes 68 = .ok (.iinc 2 1, 3) := by decide +kernel
theorem d_M_linePlanes_71 : decode b_M_linePlanes 71 = .ok (.goto (-54), 3) := by decide +kernel
theorem d_M_linePlanes_74 : decode b_M_linePlanes 74 = .ok (.aload_n 0, 1) := by decide +kernel
theorem d_M_linePlanes_75 : decode b_M_linePlanes 75 = .ok (.aload_n 0, 1) := by decide +kernel
theorem d_M_linePlanes_76 : decode b_M_linePlanes 76 = .ok (.getfield 19, 3) := by decide +kernel
theorem d_M_linePlanes_79 : decode b_M_linePlanes 79 = .ok (.iload_n 1, 1) := by decide +kernel
theorem d_M_linePlanes_80 : decode b_M_linePlanes 80 = .ok (.iaload, 1) := by decide +kernel
theorem d_M_linePlanes_81 : decode b_M_linePlanes 81 = .ok (.i2l, 1) := by decide +kernel
theorem d_M_linePlanes_82 : decode b_M_linePlanes 82 = .ok (.invokevirtual 108, 3) := by decide +kernel
theorem d_M_linePlanes_85 : decode b_M_linePlanes 85 = .ok (.aload_n 0, 1) := by decide +kernel
theorem d_M_linePlanes_86 : decode b_M_linePlanes 86 = .ok (.aload_n 0, 1) := by decide +kernel
theorem d_M_linePlanes_87 : decode b_M_linePlanes 87 = .ok (.getfield 19, 3) := by decide +kernel
theorem d_M_linePlanes_90 : decode b_M_linePlanes 90 = .ok (.iload_n 1, 1) := by decide +kernel
theorem d_M_linePlanes_91 : decode b_M_linePlanes 91 = .ok (.iaload, 1) := by decide +kernel
theorem d_M_linePlanes_92 : decode b_M_linePlanes 92 = .ok (.ineg, 1) := by decide +kernel
theorem d_M_linePlanes_93 : decode b_M_linePlanes 93 = .ok (.i2l, 1) := by decide +kernel
theorem d_M_linePlanes_94 : decode b_M_linePlanes 94 = .ok (.invokevirtual 108, 3) := by decide +kernel
theorem d_M_linePlanes_97 : decode b_M_linePlanes 97 = .ok (.iinc 1 1, 3) := by decide +kernel
theorem d_M_linePlanes_100 : decode b_M_linePlanes 100 = .ok (.goto (-93), 3) := by decide +kernel
theorem d_M_linePlanes_103 : decode b_M_linePlanes 103 = .ok (.return_, 1) := by decide +kernel
theorem d_M_offered_0 : decode b_M_offered 0 = .ok (.lconst 0, 1) := by decide +kernel
theorem d_M_offered_1 : decode b_M_offered 1 = .ok (.lstore_n 2, 1) := by decide +kernel
theorem d_M_offered_2 : decode b_M_offered 2 = .ok (.iconst 0, 1) := by decide +kernel
theorem d_M_offered_3 : decode b_M_offered 3 = .ok (.istore 4, 2) := by decide +kernel
theorem d_M_offered_5 : decode b_M_offered 5 = .ok (.iload 4, 2) := by decide +kernel
theorem d_M_offered_7 : decode b_M_offered 7 = .ok (.aload_n 0, 1) := by decide +kernel
theorem d_M_offered_8 : decode b_M_offered 8 = .ok (.getfield 94, 3) := by decide +kernel
theorem d_M_offered_11 : decode b_M_offered 11 = .ok (.if_icmp .ge 45, 3) := by decide +kernel
theorem d_M_offered_14 : decode b_M_offered 14 = .ok (.aload_n 0, 1) := by decide +kernel
theorem d_M_offered_15 : decode b_M_offered 15 = .ok (.getfield 26, 3) := by decide +kernel
theorem d_M_offered_18 : decode b_M_offered 18 = .ok (.iload 4, 2) := by decide +kernel
theorem d_M_offered_20 : decode b_M_offered 20 = .ok (.iaload, 1) := by decide +kernel
theorem d_M_offered_21 : decode b_M_offered 21 = .ok (.iload_n 1, 1) := by decide +kernel
theorem d_M_offered_22 : decode b_M_offered 22 = .ok (.if_icmp .ne 26, 3) := by decide +kernel
theorem d_M_offered_25 : decode b_M_offered 25 = .ok (.aload_n 0, 1) := by decide +kernel
theorem d_M_offered_26 : decode b_M_offered 26 = .ok (.getfield 22, 3) := by decide +kernel
theorem d_M_offered_29 : decode b_M_offered 29 = .ok (.iload 4, 2) := by decide +kernel
theorem d_M_offered_31 : decode b_M_offered 31 = .ok (.baload, 1) := by decide +kernel
theorem d_M_offered_32 : decode b_M_offered 32 = .ok (.ifCond .ne 16, 3) := by decide +kernel
theorem d_M_offered_35 : decode b_M_offered 35 = .ok (.lload_n 2, 1) := by decide +kernel
theorem d_M_offered_36 : decode b_M_offered 36 = .ok (.aload_n 0, 1) := by decide +kernel
theorem d_M_offered_37 : decode b_M_offered 37 = .ok (.getfield 32, 3) := by decide +kernel
theorem d_M_offered_40 : decode b_M_offered 40 = .ok (.iload 4, 2) := by decide +kernel
theorem d_M_offered_42 : decode b_M_offered 42 = .ok (.iaload, 1) := by decide +kernel
theorem d_M_offered_43 : decode b_M_offered 43 = .ok (.i2l, 1) := by decide +kernel
theorem d_M_offered_44 : decode b_M_offered 44 = .ok (.ladd, 1) := by decide +kernel
theorem d_M_offered_45 : decode b_M_offered 45 = .ok (.goto 4, 3) := by decide +kernel
theorem d_M_offered_48 : decode b_M_offered 48 = .ok (.lload_n 2, 1) := by decide +kernel
theorem d_M_offered_49 : decode b_M_offered 49 = .ok (.lstore_n 2, 1) := by decide +kernel
theorem d_M_offered_50 : decode b_M_offered 50 = .ok (.iinc 4 1, 3) := by decide +kernel
theorem d_M_offered_53 : decode b_M_offered 53 = .ok (.goto (-48), 3) := by decide +kernel
theorem d_M_offered_56 : decode b_M_offered 56 = .ok (.lload_n 2, 1) := by decide +kernel
theorem d_M_offered_57 : decode b_M_offered 57 = .ok (.lreturn, 1) := by decide +kernel
theorem d_M_nodePlanes_0 : decode b_M_nodePlanes 0 = .ok (.iconst 0, 1) := by decide +kernel
theorem d_M_nodePlanes_1 : decode b_M_nodePlanes 1 = .ok (.istore_n 2, 1) := by decide +kernel
theorem d_M_nodePlanes_2 : decode b_M_nodePlanes 2 = .ok (.iload_n 2, 1) := by decide +kernel
theorem d_M_nodePlanes_3 : decode b_M_nodePlanes 3 = .ok (.iconst 4, 1) := by decide +kernel
theorem d_M_nodePlanes_4 : decode b_M_nodePlanes 4 = .ok (.if_icmp .ge 199, 3) := by decide +kernel
theorem d_M_nodePlanes_7 : decode b_M_nodePlanes 7 = .ok (.iconst 0, 1) := by decide +kernel
theorem d_M_nodePlanes_8 : decode b_M_nodePlanes 8 = .ok (.istore_n 3, 1) := by decide +kernel
theorem d_M_nodePlanes_9 : decode b_M_nodePlanes 9 = .ok (.iload_n 3, 1) := by decide +kernel
theorem d_M_nodePlanes_10 : decode b_M_nodePlanes 10 = .ok (.iconst 4, 1) := by decide +kernel
theorem d_M_nodePlanes_11 : decode b_M_nodePlanes 11 = .ok (.if_icmp .ge 16, 3) := by decide +kernel
theorem d_M_nodePlanes_14 : decode b_M_nodePlanes 14 = .ok (.aload_n 0, 1) := by decide +kernel
theorem d_M_nodePlanes_15 : decode b_M_nodePlanes 15 = .ok (.getfield 51, 3) := by decide +kernel
theorem d_M_nodePlanes_18 : decode b_M_nodePlanes 18 = .ok (.iload_n 3, 1) := by decide +kernel
theorem d_M_nodePlanes_19 : decode b_M_nodePlanes 19 = .ok (.iconst 0, 1) := by decide +kernel
theorem d_M_nodePlanes_20 : decode b_M_nodePlanes 20 = .ok (.iastore, 1) := by decide +kernel
theorem d_M_nodePlanes_21 : decode b_M_nodePlanes 21 = .ok (.iinc 3 1, 3) := by decide +kernel
theorem d_M_nodePlanes_24 : decode b_M_nodePlanes 24 = .ok (.goto (-15), 3) := by decide +kernel
theorem d_M_nodePlanes_27 : decode b_M_nodePlanes 27 = .ok (.iconst 0, 1) := by decide +kernel
theorem d_M_nodePlanes_28 : decode b_M_nodePlanes 28 = .ok (.istore_n 3, 1) := by decide +kernel
theorem d_M_nodePlanes_29 : decode b_M_nodePlanes 29 = .ok (.iload_n 3, 1) := by decide +kernel
theorem d_M_nodePlanes_30 : decode b_M_nodePlanes 30 = .ok (.aload_n 0, 1) := by decide +kernel
theorem d_M_nodePlanes_31 : decode b_M_nodePlanes 31 = .ok (.getfield 86, 3) := by decide +kernel
theorem d_M_nodePlanes_34 : decode b_M_nodePlanes 34 = .ok (.if_icmp .ge 86, 3) := by decide +kernel
theorem d_M_nodePlanes_37 : decode b_M_nodePlanes 37 = .ok (.aload_n 0, 1) := by decide +kernel
theorem d_M_nodePlanes_38 : decode b_M_nodePlanes 38 = .ok (.getfield 7, 3) := by decide +kernel
theorem d_M_nodePlanes_41 : decode b_M_nodePlanes 41 = .ok (.iload_n 3, 1) := by decide +kernel
theorem d_M_nodePlanes_42 : decode b_M_nodePlanes 42 = .ok (.iaload, 1) := by decide +kernel
theorem d_M_nodePlanes_43 : decode b_M_nodePlanes 43 = .ok (.iload_n 2, 1) := by decide +kernel
theorem d_M_nodePlanes_44 : decode b_M_nodePlanes 44 = .ok (.if_icmp .eq 13, 3) := by decide +kernel
theorem d_M_nodePlanes_47 : decode b_M_nodePlanes 47 = .ok (.aload_n 0, 1) := by decide +kernel
theorem d_M_nodePlanes_48 : decode b_M_nodePlanes 48 = .ok (.getfield 13, 3) := by decide +kernel
theorem d_M_nodePlanes_51 : decode b_M_nodePlanes 51 = .ok (.iload_n 3, 1) := by decide +kernel
theorem d_M_nodePlanes_52 : decode b_M_nodePlanes 52 = .ok (.iaload, 1) := by decide +kernel
theorem d_M_nodePlanes_53 : decode b_M_nodePlanes 53 = .ok (.iload_n 2, 1) := by decide +kernel
theorem d_M_nodePlanes_54 : decode b_M_nodePlanes 54 = .ok (.if_icmp .ne 60, 3) := by decide +kernel
theorem d_M_nodePlanes_57 : decode b_M_nodePlanes 57 = .ok (.aload_n 0, 1) := by decide +kernel
theorem d_M_nodePlanes_58 : decode b_M_nodePlanes 58 = .ok (.getfield 7, 3) := by decide +kernel
theorem d_M_nodePlanes_61 : decode b_M_nodePlanes 61 = .ok (.iload_n 3, 1) := by decide +kernel
theorem d_M_nodePlanes_62 : decode b_M_nodePlanes 62 = .ok (.iaload, 1) := by decide +kernel
theorem d_M_nodePlanes_63 : decode b_M_nodePlanes 63 = .ok (.aload_n 0, 1) := by decide +kernel
theorem d_M_nodePlanes_64 : decode b_M_nodePlanes 64 = .ok (.getfield 13, 3) := by decide +kernel
theorem d_M_nodePlanes_67 : decode b_M_nodePlanes 67 = .ok (.iload_n 3, 1) := by decide +kernel
theorem d_M_nodePlanes_68 : decode b_M_nodePlanes 68 = .ok (.iaload, 1) := by decide +kernel
theorem d_M_nodePlanes_69 : decode b_M_nodePlanes 69 = .ok (.iadd, 1) := by decide +kernel
theorem d_M_nodePlanes_70 : decode b_M_nodePlanes 70 = .ok (.iload_n 2, 1) := by decide +kernel
theorem d_M_nodePlanes_71 : decode b_M_nodePlanes 71 = .ok (.isub, 1) := by decide +kernel
theorem d_M_nodePlanes_72 : decode b_M_nodePlanes 72 = .ok (.istore 4, 2) := by decide +kernel
theorem d_M_nodePlanes_74 : decode b_M_nodePlanes 74 = .ok (.aload_n 0, 1) := by decide +kernel
theorem d_M_nodePlanes_75 : decode b_M_nodePlanes 75 = .ok (.getfield 51, 3) := by decide +kernel
theorem d_M_nodePlanes_78 : decode b_M_nodePlanes 78 = .ok (.iload 4, 2) := by decide +kernel
theorem d_M_nodePlanes_80 : decode b_M_nodePlanes 80 = .ok (.aload_n 0, 1) := by decide +kernel
theorem d_M_nodePlanes_81 : decode b_M_nodePlanes 81 = .ok (.getfield 51, 3) := by decide +kernel
theorem d_M_nodePlanes_84 : decode b_M_nodePlanes 84 = .ok (.iload 4, 2) := by decide +kernel
theorem d_M_nodePlanes_86 : decode b_M_nodePlanes 86 = .ok (.iaload, 1) := by decide +kernel
theorem d_M_nodePlanes_87 : decode b_M_nodePlanes 87 = .ok (.aload_n 0, 1) := by decide +kernel
theorem d_M_nodePlanes_88 : decode b_M_nodePlanes 88 = .ok (.getfield 16, 3) := by decide +kernel
theorem d_M_nodePlanes_91 : decode b_M_nodePlanes 91 = .ok (.iload_n 3, 1) := by decide +kernel
theorem d_M_nodePlanes_92 : decode b_M_nodePlanes 92 = .ok (.iaload, 1) := by decide +kernel
theorem d_M_nodePlanes_93 : decode b_M_nodePlanes 93 = .ok (.iadd, 1) := by decide +kernel
theorem d_M_nodePlanes_94 : decode b_M_nodePlanes 94 = .ok (.iastore, 1) := by decide +kernel
theorem d_M_nodePlanes_95 : decode b_M_nodePlanes 95 = .ok (.aload_n 0, 1) := by decide +kernel
theorem d_M_nodePlanes_96 : decode b_M_nodePlanes 96 = .ok (.getfield 51, 3) := by decide +kernel
theorem d_M_nodePlanes_99 : decode b_M_nodePlanes 99 = .ok (.iload_n 2, 1) := by decide +kernel
theorem d_M_nodePlanes_100 : decode b_M_nodePlanes 100 = .ok (.aload_n 0, 1) := by decide +kernel
theorem d_M_nodePlanes_101 : decode b_M_nodePlanes 101 = .ok (.getfield 51, 3) := by decide +kernel
theorem d_M_nodePlanes_104 : decode b_M_nodePlanes 104 = .ok (.iload_n 2, 1) := by decide +kernel
theorem d_M_nodePlanes_105 : decode b_M_nodePlanes 105 = .ok (.iaload, 1) := by decide +kernel
theorem d_M_nodePlanes_106 : decode b_M_nodePlanes 106 = .ok (.aload_n 0, 1) := by decide +kernel
theorem d_M_nodePlanes_107 : decode b_M_nodePlanes 107 = .ok (.getfield 16, 3) := by decide +kernel
theorem d_M_nodePlanes_110 : decode b_M_nodePlanes 110 = .ok (.iload_n 3, 1) := by decide +kernel
theorem d_M_nodePlanes_111 : decode b_M_nodePlanes 111 = .ok (.iaload, 1) := by decide +kernel
theorem d_M_nodePlanes_112 : decode b_M_nodePlanes 112 = .ok (.isub, 1) := by decide +kernel
theorem d_M_nodePlanes_113 : decode b_M_nodePlanes 113 = .ok (.iastore, 1) := by decide +kernel
theorem d_M_nodePlanes_114 : decode b_M_nodePlanes 114 = .ok (.iinc 3 1, 3) := by decide +kernel
theorem d_M_nodePlanes_117 : decode b_M_nodePlanes 117 = .ok (.goto (-88), 3) := by decide +kernel
theorem d_M_nodePlanes_120 : decode b_M_nodePlanes 120 = .ok (.iload_n 2, 1) := by decide +kernel
theorem d_M_nodePlanes_121 : decode b_M_nodePlanes 121 = .ok (.iload_n 1, 1) := by decide +kernel
theorem d_M_nodePlanes_122 : decode b_M_nodePlanes 122 = .ok (.if_icmp .ne 7, 3) := by decide +kernel
theorem d_M_nodePlanes_125 : decode b_M_nodePlanes 125 = .ok (.lconst 1, 1) := by decide +kernel
theorem d_M_nodePlanes_126 : decode b_M_nodePlanes 126 = .ok (.goto 4, 3) := by decide +kernel
theorem d_M_nodePlanes_129 : decode b_M_nodePlanes 129 = .ok (.lconst 0, 1) := by decide +kernel
theorem d_M_nodePlanes_130 : decode b_M_nodePlanes 130 = .ok (.aload_n 0, 1) := by decide +kernel
theorem d_M_nodePlanes_131 : decode b_M_nodePlanes 131 = .ok (.iload_n 2, 1) := by decide +kernel
theorem d_M_nodePlanes_132 : decode b_M_nodePlanes 132 = .ok (.invokevirtual 112, 3) := by decide +kernel
theorem d_M_nodePlanes_135 : decode b_M_nodePlanes 135 = .ok (.lsub, 1) := by decide +kernel
theorem d_M_nodePlanes_136 : decode b_M_nodePlanes 136 = .ok (.lstore_n 3, 1) := by decide +kernel
theorem d_M_nodePlanes_137 : decode b_M_nodePlanes 137 = .ok (.aload_n 0, 1) := by decide +kernel
theorem d_M_nodePlanes_138 : decode b_M_nodePlanes 138 = .ok (.lload_n 3, 1) := by decide +kernel
theorem d_M_nodePlanes_139 : decode b_M_nodePlanes 139 = .ok (.invokevirtual 108, 3) := by decide +kernel
theorem d_M_nodePlanes_142 : decode b_M_nodePlanes 142 = .ok (.iconst 0, 1) := by decide +kernel
theorem d_M_nodePlanes_143 : decode b_M_nodePlanes 143 = .ok (.istore 5, 2) := by decide +kernel
theorem d_M_nodePlanes_145 : decode b_M_nodePlanes 145 = .ok (.iload 5, 2) := by decide +kernel
theorem d_M_nodePlanes_147 : decode b_M_nodePlanes 147 = .ok (.aload_n 0, 1) := by decide +kernel
theorem d_M_nodePlanes_148 : decode b_M_nodePlanes 148 = .ok (.getfield 94, 3) := by decide +kernel
theorem d_M_nodePlanes_151 : decode b_M_nodePlanes 151 = .ok (.if_icmp .ge 46, 3) := by decide +kernel
theorem d_M_nodePlanes_154 : decode b_M_nodePlanes 154 = .ok (.aload_n 0, 1) := by decide +kernel
theorem d_M_nodePlanes_155 : decode b_M_nodePlanes 155 = .ok (.getfield 26, 3) := by decide +kernel
theorem d_M_nodePlanes_158 : decode b_M_nodePlanes 158 = .ok (.aload_n 0, 1) := by decide +kernel
theorem d_M_nodePlanes_159 : decode b_M_nodePlanes 159 = .ok (.getfield 35, 3) := by decide +kernel
theorem d_M_nodePlanes_162 : decode b_M_nodePlanes 162 = .ok (.iload 5, 2) := by decide +kernel
theorem d_M_nodePlanes_164 : decode b_M_nodePlanes 164 = .ok (.iaload, 1) := by decide +kernel
theorem d_M_nodePlanes_165 : decode b_M_nodePlanes 165 = .ok (.iaload, 1) := by decide +kernel
theorem d_M_nodePlanes_166 : decode b_M_nodePlanes 166 = .ok (.iload_n 2, 1) := by decide +kernel
theorem d_M_nodePlanes_167 : decode b_M_nodePlanes 167 = .ok (.if_icmp .ne 24, 3) := by decide +kernel
theorem d_M_nodePlanes_170 : decode b_M_nodePlanes 170 = .ok (.lload_n 3, 1) := by decide +kernel
theorem d_M_nodePlanes_171 : decode b_M_nodePlanes 171 = .ok (.aload_n 0, 1) := by decide +kernel
theorem d_M_nodePlanes_172 : decode b_M_nodePlanes 172 = .ok (.getfield 32, 3) := by decide +kernel
theorem d_M_nodePlanes_175 : decode b_M_nodePlanes 175 = .ok (.aload_n 0, 1) := by decide +kernel
theorem d_M_nodePlanes_176 : decode b_M_nodePlanes 176 = .ok (.getfield 35, 3) := by decide +kernel
theorem d_M_nodePlanes_179 : decode b_M_nodePlanes 179 = .ok (.iload 5, 2) := by decide +kernel
theorem d_M_nodePlanes_181 : decode b_M_nodePlanes 181 = .ok (.iaload, 1) := by decide +kernel
theorem d_M_nodePlanes_182 : decode b_M_nodePlanes 182 = .ok (.iaload, 1) := by decide +kernel
theorem d_M_nodePlanes_183 : decode b_M_nodePlanes 183 = .ok (.i2l, 1) := by decide +kernel
theorem d_M_nodePlanes_184 : decode b_M_nodePlanes 184 = .ok (.ladd, 1) := by decide +kernel
theorem d_M_nodePlanes_185 : decode b_M_nodePlanes 185 = .ok (.lstore_n 3, 1) := by decide +kernel
theorem d_M_nodePlanes_186 : decode b_M_nodePlanes 186 = .ok (.aload_n 0, 1) := by decide +kernel
theorem d_M_nodePlanes_187 : decode b_M_nodePlanes 187 = .ok (.lload_n 3, 1) := by decide +kernel
theorem d_M_nodePlanes_188 : decode b_M_nodePlanes 188 = .ok (.invokevirtual 108, 3) := by decide +kernel
theorem d_M_nodePlanes_191 : decode b_M_nodePlanes 191 = .ok (.iinc 5 1, 3) := by decide +kernel
theorem d_M_nodePlanes_194 : decode b_M_nodePlanes 194 = .ok (.goto (-49), 3) := by decide +kernel
theorem d_M_nodePlanes_197 : decode b_M_nodePlanes 197 = .ok (.iinc 2 1, 3) := by decide +kernel
theorem d_M_nodePlanes_200 : decode b_M_nodePlanes 200 = .ok (.goto (-198), 3) := by decide +kernel
theorem d_M_nodePlanes_203 : decode b_M_nodePlanes 203 = .ok (.return_, 1) := by decide +kernel
theorem d_M_cell_0 : decode b_M_cell 0 = .ok (.iload_n 2, 1) := by decide +kernel
theorem d_M_cell_1 : decode b_M_cell 1 = .ok (.iload_n 3, 1) := by decide +kernel
theorem d_M_cell_2 : decode b_M_cell 2 = .ok (.if_icmp .ne 12, 3) := by decide +kernel
theorem d_M_cell_5 : decode b_M_cell 5 = .ok (.aload_n 0, 1) := by decide +kernel
theorem d_M_cell_6 : decode b_M_cell 6 = .ok (.getfield 48, 3) := by decide +kernel
theorem d_M_cell_9 : decode b_M_cell 9 = .ok (.iload_n 1, 1) := by decide +kernel
theorem d_M_cell_10 : decode b_M_cell 10 = .ok (.laload, 1) := by decide +kernel
theorem d_M_cell_11 : decode b_M_cell 11 = .ok (.goto 37, 3) := by decide +kernel
theorem d_M_cell_14 : decode b_M_cell 14 = .ok (.iload_n 2, 1) := by decide +kernel
theorem d_M_cell_15 : decode b_M_cell 15 = .ok (.iconst 1, 1) := by decide +kernel
theorem d_M_cell_16 : decode b_M_cell 16 = .ok (.if_icmp .ne 12, 3) := by decide +kernel
theorem d_M_cell_19 : decode b_M_cell 19 = .ok (.aload_n 0, 1) := by decide +kernel
theorem d_M_cell_20 : decode b_M_cell 20 = .ok (.getfield 38, 3) := by decide +kernel
theorem d_M_cell_23 : decode b_M_cell 23 = .ok (.iload_n 1, 1) := by decide +kernel
theorem d_M_cell_24 : decode b_M_cell 24 = .ok (.laload, 1) := by decide +kernel
theorem d_M_cell_25 : decode b_M_cell 25 = .ok (.goto 23, 3) := by decide +kernel
theorem d_M_cell_28 : decode b_M_cell 28 = .ok (.iload_n 2, 1) := by decide +kernel
theorem d_M_cell_29 : decode b_M_cell 29 = .ok (.iconst 2, 1) := by decide +kernel
theorem d_M_cell_30 : decode b_M_cell 30 = .ok (.if_icmp .ne 12, 3) := by decide +kernel
theorem d_M_cell_33 : decode b_M_cell 33 = .ok (.aload_n 0, 1) := by decide +kernel
theorem d_M_cell_34 : decode b_M_cell 34 = .ok (.getfield 42, 3) := by decide +kernel
theorem d_M_cell_37 : decode b_M_cell 37 = .ok (.iload_n 1, 1) := by decide +kernel
theorem d_M_cell_38 : decode b_M_cell 38 = .ok (.laload, 1) := by decide +kernel
theorem d_M_cell_39 : decode b_M_cell 39 = .ok (.goto 9, 3) := by decide +kernel
theorem d_M_cell_42 : decode b_M_cell 42 = .ok (.aload_n 0, 1) := by decide +kernel
theorem d_M_cell_43 : decode b_M_cell 43 = .ok (.getfield 45, 3) := by decide +kernel
theorem d_M_cell_46 : decode b_M_cell 46 = .ok (.iload_n 1, 1) := by decide +kernel
theorem d_M_cell_47 : decode b_M_cell 47 = .ok (.laload, 1) := by decide +kernel
theorem d_M_cell_48 : decode b_M_cell 48 = .ok (.lreturn, 1) := by decide +kernel
theorem d_M_minor_0 : decode b_M_minor 0 = .ok (.aload_n 0, 1) := by decide +kernel
theorem d_M_minor_1 : decode b_M_minor 1 = .ok (.iload_n 1, 1) := by decide +kernel
theorem d_M_minor_2 : decode b_M_minor 2 = .ok (.iload_n 3, 1) := by decide +kernel
theorem d_M_minor_3 : decode b_M_minor 3 = .ok (.iload 5, 2) := by decide +kernel
theorem d_M_minor_5 : decode b_M_minor 5 = .ok (.invokevirtual 116, 3) := by decide +kernel
theorem d_M_minor_8 : decode b_M_minor 8 = .ok (.lstore 6, 2) := by decide +kernel
theorem d_M_minor_10 : decode b_M_minor 10 = .ok (.aload_n 0, 1) := by decide +kernel
theorem d_M_minor_11 : decode b_M_minor 11 = .ok (.iload_n 2, 1) := by decide +kernel
theorem d_M_minor_12 : decode b_M_minor 12 = .ok (.iload 4, 2) := by decide +kernel
theorem d_M_minor_14 : decode b_M_minor 14 = .ok (.iload 5, 2) := by decide +kernel
theorem d_M_minor_16 : decode b_M_minor 16 = .ok (.invokevirtual 116, 3) := by decide +kernel
theorem d_M_minor_19 : decode b_M_minor 19 = .ok (.lstore 8, 2) := by decide +kernel
theorem d_M_minor_21 : decode b_M_minor 21 = .ok (.aload_n 0, 1) := by decide +kernel
theorem d_M_minor_22 : decode b_M_minor 22 = .ok (.iload_n 1, 1) := by decide +kernel
theorem d_M_minor_23 : decode b_M_minor 23 = .ok (.iload 4, 2) := by decide +kernel
theorem d_M_minor_25 : decode b_M_minor 25 = .ok (.iload 5, 2) := by decide +kernel
theorem d_M_minor_27 : decode b_M_minor 27 = .ok (.invokevirtual 116, 3) := by decide +kernel
theorem d_M_minor_30 : decode b_M_minor 30 = .ok (.lstore 10, 2) := by decide +kernel
theorem d_M_minor_32 : decode b_M_minor 32 = .ok (.aload_n 0, 1) := by decide +kernel
theorem d_M_minor_33 : decode b_M_minor 33 = .ok (.iload_n 2, 1) := by decide +kernel
theorem d_M_minor_34 : decode b_M_minor 34 = .ok (.iload_n 3, 1) := by decide +kernel
theorem d_M_minor_35 : decode b_M_minor 35 = .ok (.iload 5, 2) := by decide +kernel
theorem d_M_minor_37 : decode b_M_minor 37 = .ok (.invokevirtual 116, 3) := by decide +kernel
theorem d_M_minor_40 : decode b_M_minor 40 = .ok (.lstore 12, 2) := by decide +kernel
theorem d_M_minor_42 : decode b_M_minor 42 = .ok (.lload 6, 2) := by decide +kernel
theorem d_M_minor_44 : decode b_M_minor 44 = .ok (.lload 8, 2) := by decide +kernel
theorem d_M_minor_46 : decode b_M_minor 46 = .ok (.lmul, 1) := by decide +kernel
theorem d_M_minor_47 : decode b_M_minor 47 = .ok (.lload 10, 2) := by decide +kernel
theorem d_M_minor_49 : decode b_M_minor 49 = .ok (.lload 12, 2) := by decide +kernel
theorem d_M_minor_51 : decode b_M_minor 51 = .ok (.lmul, 1) := by decide +kernel
theorem d_M_minor_52 : decode b_M_minor 52 = .ok (.lsub, 1) := by decide +kernel
theorem d_M_minor_53 : decode b_M_minor 53 = .ok (.lreturn, 1) := by decide +kernel
theorem d_M_determinant_0 : decode b_M_determinant 0 = .ok (.aload_n 0, 1) := by decide +kernel
theorem d_M_determinant_1 : decode b_M_determinant 1 = .ok (.iload_n 1, 1) := by decide +kernel
theorem d_M_determinant_2 : decode b_M_determinant 2 = .ok (.iconst 1, 1) := by decide +kernel
theorem d_M_determinant_3 : decode b_M_determinant 3 = .ok (.iload 4, 2) := by decide +kernel
theorem d_M_determinant_5 : decode b_M_determinant 5 = .ok (.invokevirtual 116, 3) := by decide +kernel
theorem d_M_determinant_8 : decode b_M_determinant 8 = .ok (.aload_n 0, 1) := by decide +kernel
theorem d_M_determinant_9 : decode b_M_determinant 9 = .ok (.iload_n 2, 1) := by decide +kernel
theorem d_M_determinant_10 : decode b_M_determinant 10 = .ok (.iload_n 3, 1) := by decide +kernel
theorem d_M_determinant_11 : decode b_M_determinant 11 = .ok (.iconst 2, 1) := by decide +kernel
theorem d_M_determinant_12 : decode b_M_determinant 12 = .ok (.iconst 3, 1) := by decide +kernel
theorem d_M_determinant_13 : decode b_M_determinant 13 = .ok (.iload 4, 2) := by decide +kernel
theorem d_M_determinant_15 : decode b_M_determinant 15 = .ok (.invokevirtual 120, 3) := by decide +kernel
theorem d_M_determinant_18 : decode b_M_determinant 18 = .ok (.lmul, 1) := by decide +kernel
theorem d_M_determinant_19 : decode b_M_determinant 19 = .ok (.lstore 5, 2) := by decide +kernel
theorem d_M_determinant_21 : decode b_M_determinant 21 = .ok (.aload_n 0, 1) := by decide +kernel
theorem d_M_determinant_22 : decode b_M_determinant 22 = .ok (.iload_n 1, 1) := by decide +kernel
theorem d_M_determinant_23 : decode b_M_determinant 23 = .ok (.iconst 2, 1) := by decide +kernel
theorem d_M_determinant_24 : decode b_M_determinant 24 = .ok (.iload 4, 2) := by decide +kernel
theorem d_M_determinant_26 : decode b_M_determinant 26 = .ok (.invokevirtual 116, 3) := by decide +kernel
theorem d_M_determinant_29 : decode b_M_determinant 29 = .ok (.aload_n 0, 1) := by decide +kernel
theorem d_M_determinant_30 : decode b_M_determinant 30 = .ok (.iload_n 2, 1) := by decide +kernel
theorem d_M_determinant_31 : decode b_M_determinant 31 = .ok (.iload_n 3, 1) := by decide +kernel
theorem d_M_determinant_32 : decode b_M_determinant 32 = .ok (.iconst 1, 1) := by decide +kernel
theorem d_M_determinant_33 : decode b_M_determinant 33 = .ok (.iconst 3, 1) := by decide +kernel
theorem d_M_determinant_34 : decode b_M_determinant 34 = .ok (.iload 4, 2) := by decide +kernel
theorem d_M_determinant_36 : decode b_M_determinant 36 = .ok (.invokevirtual 120, 3) := by decide +kernel
theorem d_M_determinant_39 : decode b_M_determinant 39 = .ok (.lmul, 1) := by decide +kernel
theorem d_M_determinant_40 : decode b_M_determinant 40 = .ok (.lstore 7, 2) := by decide +kernel
theorem d_M_determinant_42 : decode b_M_determinant 42 = .ok (.aload_n 0, 1) := by decide +kernel
theorem d_M_determinant_43 : decode b_M_determinant 43 = .ok (.iload_n 1, 1) := by decide +kernel
theorem d_M_determinant_44 : decode b_M_determinant 44 = .ok (.iconst 3, 1) := by decide +kernel
theorem d_M_determinant_45 : decode b_M_determinant 45 = .ok (.iload 4, 2) := by decide +kernel
theorem d_M_determinant_47 : decode b_M_determinant 47 = .ok (.invokevirtual 116, 3) := by decide +kernel
theorem d_M_determinant_50 : decode b_M_determinant 50 = .ok (.aload_n 0, 1) := by decide +kernel
theorem d_M_determinant_51 : decode b_M_determinant 51 = .ok (.iload_n 2, 1) := by decide +kernel
theorem d_M_determinant_52 : decode b_M_determinant 52 = .ok (.iload_n 3, 1) := by decide +kernel
theorem d_M_determinant_53 : decode b_M_determinant 53 = .ok (.iconst 1, 1) := by decide +kernel
theorem d_M_determinant_54 : decode b_M_determinant 54 = .ok (.iconst 2, 1) := by decide +kernel
theorem d_M_determinant_55 : decode b_M_determinant 55 = .ok (.iload 4, 2) := by decide +kernel
theorem d_M_determinant_57 : decode b_M_determinant 57 = .ok (.invokevirtual 120, 3) := by decide +kernel
theorem d_M_determinant_60 : decode b_M_determinant 60 = .ok (.lmul, 1) := by decide +kernel
theorem d_M_determinant_61 : decode b_M_determinant 61 = .ok (.lstore 9, 2) := by decide +kernel
theorem d_M_determinant_63 : decode b_M_determinant 63 = .ok (.lload 5, 2) := by decide +kernel
theorem d_M_determinant_65 : decode b_M_determinant 65 = .ok (.lload 7, 2) := by decide +kernel
theorem d_M_determinant_67 : decode b_M_determinant 67 = .ok (.lsub, 1) := by decide +kernel
theorem d_M_determinant_68 : decode b_M_determinant 68 = .ok (.lload 9, 2) := by decide +kernel
theorem d_M_determinant_70 : decode b_M_determinant 70 = .ok (.ladd, 1) := by decide +kernel
theorem d_M_determinant_71 : decode b_M_determinant 71 = .ok (.lreturn, 1) := by decide +kernel
theorem d_M_meet_0 : decode b_M_meet 0 = .ok (.aload_n 0, 1) := by decide +kernel
theorem d_M_meet_1 : decode b_M_meet 1 = .ok (.iload_n 1, 1) := by decide +kernel
theorem d_M_meet_2 : decode b_M_meet 2 = .ok (.iload_n 2, 1) := by decide +kernel
theorem d_M_meet_3 : decode b_M_meet 3 = .ok (.iload_n 3, 1) := by decide +kernel
theorem d_M_meet_4 : decode b_M_meet 4 = .ok (.iconst 0, 1) := by decide +kernel
theorem d_M_meet_5 : decode b_M_meet 5 = .ok (.invokevirtual 124, 3) := by decide +kernel
theorem d_M_meet_8 : decode b_M_meet 8 = .ok (.lstore 4, 2) := by decide +kernel
theorem d_M_meet_10 : decode b_M_meet 10 = .ok (.lload 4, 2) := by decide +kernel
theorem d_M_meet_12 : decode b_M_meet 12 = .ok (.lconst 0, 1) := by decide +kernel
theorem d_M_meet_13 : decode b_M_meet 13 = .ok (.lcmp, 1) := by decide +kernel
theorem d_M_meet_14 : decode b_M_meet 14 = .ok (.ifCond .ne 5, 3) := by decide +kernel
theorem d_M_meet_17 : decode b_M_meet 17 = .ok (.iconst 0, 1) := by decide +kernel
theorem d_M_meet_18 : decode b_M_meet 18 = .ok (.ireturn, 1) := by decide +kernel
theorem d_M_meet_19 : decode b_M_meet 19 = .ok (.lload 4, 2) := by decide +kernel
theorem d_M_meet_21 : decode b_M_meet 21 = .ok (.lconst 0, 1) := by decide +kernel
theorem d_M_meet_22 : decode b_M_meet 22 = .ok (.lcmp, 1) := by decide +kernel
theorem d_M_meet_23 : decode b_M_meet 23 = .ok (.ifCond .ge 9, 3) := by decide +kernel
theorem d_M_meet_26 : decode b_M_meet 26 = .ok (.ldc2_w 128, 3) := by decide +kernel
theorem d_M_meet_29 : decode b_M_meet 29 = .ok (.goto 4, 3) := by decide +kernel
theorem d_M_meet_32 : decode b_M_meet 32 = .ok (.lconst 1, 1) := by decide +kernel
theorem d_M_meet_33 : decode b_M_meet 33 = .ok (.lstore 6, 2) := by decide +kernel
theorem d_M_meet_35 : decode b_M_meet 35 = .ok (.aload_n 0, 1) := by decide +kernel
theorem d_M_meet_36 : decode b_M_meet 36 = .ok (.lload 4, 2) := by decide +kernel
theorem d_M_meet_38 : decode b_M_meet 38 = .ok (.lload 6, 2) := by decide +kernel
theorem d_M_meet_40 : decode b_M_meet 40 = .ok (.lmul, 1) := by decide +kernel
theorem d_M_meet_41 : decode b_M_meet 41 = .ok (.putfield 130, 3) := by decide +kernel
theorem d_M_meet_44 : decode b_M_meet 44 = .ok (.aload_n 0, 1) := by decide +kernel
theorem d_M_meet_45 : decode b_M_meet 45 = .ok (.getfield 54, 3) := by decide +kernel
theorem d_M_meet_48 : decode b_M_meet 48 = .ok (.iconst 0, 1) := by decide +kernel
theorem d_M_meet_49 : decode b_M_meet 49 = .ok (.lconst 0, 1) := by decide +kernel
theorem d_M_meet_50 : decode b_M_meet 50 = .ok (.lastore, 1) := by decide +kernel
theorem d_M_meet_51 : decode b_M_meet 51 = .ok (.iconst 1, 1) := by decide +kernel
theorem d_M_meet_52 : decode b_M_meet 52 = .ok (.istore 8, 2) := by decide +kernel
theorem d_M_meet_54 : decode b_M_meet 54 = .ok (.iload 8, 2) := by decide +kernel
theorem d_M_meet_56 : decode b_M_meet 56 = .ok (.iconst 3, 1) := by decide +kernel
theorem d_M_meet_57 : decode b_M_meet 57 = .ok (.if_icmp .gt 28, 3) := by decide +kernel
theorem d_M_meet_60 : decode b_M_meet 60 = .ok (.aload_n 0, 1) := by decide +kernel
theorem d_M_meet_61 : decode b_M_meet 61 = .ok (.getfield 54, 3) := by decide +kernel
theorem d_M_meet_64 : decode b_M_meet 64 = .ok (.iload 8, 2) := by decide +kernel
theorem d_M_meet_66 : decode b_M_meet 66 = .ok (.lload 6, 2) := by decide +kernel
theorem d_M_meet_68 : decode b_M_meet 68 = .ok (.aload_n 0, 1) := by decide +kernel
theorem d_M_meet_69 : decode b_M_meet 69 = .ok (.iload_n 1, 1) := by decide +kernel
theorem d_M_meet_70 : decode b_M_meet 70 = .ok (.iload_n 2, 1) := by decide +kernel
theorem d_M_meet_71 : decode b_M_meet 71 = .ok (.iload_n 3, 1) := by decide +kernel
theorem d_M_meet_72 : decode b_M_meet 72 = .ok (.iload 8, 2) := by decide +kernel
theorem d_M_meet_74 : decode b_M_meet 74 = .ok (.invokevirtual 124, 3) := by decide +kernel
theorem d_M_meet_77 : decode b_M_meet 77 = .ok (.lmul, 1) := by decide +kernel
theorem d_M_meet_78 : decode b_M_meet 78 = .ok (.lastore, 1) := by decide +kernel
theorem d_M_meet_79 : decode b_M_meet 79 = .ok (.iinc 8 1, 3) := by decide +kernel
theorem d_M_meet_82 : decode b_M_meet 82 = .ok (.goto (-28), 3) := by decide +kernel
theorem d_M_meet_85 : decode b_M_meet 85 = .ok (.iconst 1, 1) := by decide +kernel
theorem d_M_meet_86 : decode b_M_meet 86 = .ok (.ireturn, 1) := by decide +kernel
theorem d_M_flowHere_0 : decode b_M_flowHere 0 = .ok (.aload_n 0, 1) := by decide +kernel
theorem d_M_flowHere_1 : decode b_M_flowHere 1 = .ok (.getfield 16, 3) := by decide +kernel
theorem d_M_flowHere_4 : decode b_M_flowHere 4 = .ok (.iload_n 1, 1) := by decide +kernel
theorem d_M_flowHere_5 : decode b_M_flowHere 5 = .ok (.iaload, 1) := by decide +kernel
theorem d_M_flowHere_6 : decode b_M_flowHere 6 = .ok (.i2l, 1) := by decide +kernel
theorem d_M_flowHere_7 : decode b_M_flowHere 7 = .ok (.aload_n 0, 1) := by decide +kernel
theorem d_M_flowHere_8 : decode b_M_flowHere 8 = .ok (.getfield 54, 3) := by decide +kernel
theorem d_M_flowHere_11 : decode b_M_flowHere 11 = .ok (.aload_n 0, 1) := by decide +kernel
theorem d_M_flowHere_12 : decode b_M_flowHere 12 = .ok (.getfield 7, 3) := by decide +kernel
theorem d_M_flowHere_15 : decode b_M_flowHere 15 = .ok (.iload_n 1, 1) := by decide +kernel
theorem d_M_flowHere_16 : decode b_M_flowHere 16 = .ok (.iaload, 1) := by decide +kernel
theorem d_M_flowHere_17 : decode b_M_flowHere 17 = .ok (.laload, 1) := by decide +kernel
theorem d_M_flowHere_18 : decode b_M_flowHere 18 = .ok (.aload_n 0, 1) := by decide +kernel
theorem d_M_flowHere_19 : decode b_M_flowHere 19 = .ok (.getfield 54, 3) := by decide +kernel
theorem d_M_flowHere_22 : decode b_M_flowHere 22 = .ok (.aload_n 0, 1) := by decide +kernel
theorem d_M_flowHere_23 : decode b_M_flowHere 23 = .ok (.getfield 13, 3) := by decide +kernel
theorem d_M_flowHere_26 : decode b_M_flowHere 26 = .ok (.iload_n 1, 1) := by decide +kernel
theorem d_M_flowHere_27 : decode b_M_flowHere 27 = .ok (.iaload, 1) := by decide +kernel
theorem d_M_flowHere_28 : decode b_M_flowHere 28 = .ok (.laload, 1) := by decide +kernel
theorem d_M_flowHere_29 : decode b_M_flowHere 29 = .ok (.lsub, 1) := by decide +kernel
theorem d_M_flowHere_30 : decode b_M_flowHere 30 = .ok (.lmul, 1) := by decide +kernel
theorem d_M_flowHere_31 : decode b_M_flowHere 31 = .ok (.lreturn, 1) := by decide +kernel
theorem d_M_brought_0 : decode b_M_brought 0 = .ok (.lconst 0, 1) := by decide +kernel
theorem d_M_brought_1 : decode b_M_brought 1 = .ok (.lstore_n 2, 1) := by decide +kernel
theorem d_M_brought_2 : decode b_M_brought 2 = .ok (.iconst 0, 1) := by decide +kernel
theorem d_M_brought_3 : decode b_M_brought 3 = .ok (.istore 4, 2) := by decide +kernel
theorem d_M_brought_5 : decode b_M_brought 5 = .ok (.iload 4, 2) := by decide +kernel
theorem d_M_brought_7 : decode b_M_brought 7 = .ok (.aload_n 0, 1) := by decide +kernel
theorem d_M_brought_8 : decode b_M_brought 8 = .ok (.getfield 86, 3) := by decide +kernel
theorem d_M_brought_11 : decode b_M_brought 11 = .ok (.if_icmp .ge 55, 3) := by decide +kernel
theorem d_M_brought_14 : decode b_M_brought 14 = .ok (.aload_n 0, 1) := by decide +kernel
theorem d_M_brought_15 : decode b_M_brought 15 = .ok (.iload 4, 2) := by decide +kernel
theorem d_M_brought_17 : decode b_M_brought 17 = .ok (.invokevirtual 134, 3) := by decide +kernel
theorem d_M_brought_20 : decode b_M_brought 20 = .ok (.lstore 5, 2) := by decide +kernel
theorem d_M_brought_22 : decode b_M_brought 22 = .ok (.aload_n 0, 1) := by decide +kernel
theorem d_M_brought_23 : decode b_M_brought 23 = .ok (.getfield 13, 3) := by decide +kernel
theorem d_M_brought_26 : decode b_M_brought 26 = .ok (.iload 4, 2) := by decide +kernel
theorem d_M_brought_28 : decode b_M_brought 28 = .ok (.iaload, 1) := by decide +kernel
theorem d_M_brought_29 : decode b_M_brought 29 = .ok (.iload_n 1, 1) := by decide +kernel
theorem d_M_brought_30 : decode b_M_brought 30 = .ok (.if_icmp .ne 10, 3) := by decide +kernel
theorem d_M_brought_33 : decode b_M_brought 33 = .ok (.lload_n 2, 1) := by decide +kernel
theorem d_M_brought_34 : decode b_M_brought 34 = .ok (.lload 5, 2) := by decide +kernel
theorem d_M_brought_36 : decode b_M_brought 36 = .ok (.ladd, 1) := by decide +kernel
theorem d_M_brought_37 : decode b_M_brought 37 = .ok (.goto 22, 3) := by decide +kernel
theorem d_M_brought_40 : decode b_M_brought 40 = .ok (.aload_n 0, 1) := by decide +kernel
theorem d_M_brought_41 : decode b_M_brought 41 = .ok (.getfield 7, 3) := by decide +kernel
theorem d_M_brought_44 : decode b_M_brought 44 = .ok (.iload 4, 2) := by decide +kernel
theorem d_M_brought_46 : decode b_M_brought 46 = .ok (.iaload, 1) := by decide +kernel
theorem d_M_brought_47 : decode b_M_brought 47 = .ok (.iload_n 1, 1) := by decide +kernel
theorem d_M_brought_48 : decode b_M_brought 48 = .ok (.if_icmp .ne 10, 3) := by decide +kernel
theorem d_M_brought_51 : decode b_M_brought 51 = .ok (.lload_n 2, 1) := by decide +kernel
theorem d_M_brought_52 : decode b_M_brought 52 = .ok (.lload 5, 2) := by decide +kernel
theorem d_M_brought_54 : decode b_M_brought 54 = .ok (.lsub, 1) := by decide +kernel
theorem d_M_brought_55 : decode b_M_brought 55 = .ok (.goto 4, 3) := by decide +kernel
