theorem dX10_readsAll_0 : decode cX10_readsAll 0 = .ok (.aload_n 0, 1) := by decide +kernel
theorem dX10_readsAll_1 : decode cX10_readsAll 1 = .ok (.iconst 0, 1) := by decide +kernel
theorem dX10_readsAll_2 : decode cX10_readsAll 2 = .ok (.putfield 159, 3) := by decide +kernel
theorem dX10_readsAll_5 : decode cX10_readsAll 5 = .ok (.aload_n 0, 1) := by decide +kernel
theorem dX10_readsAll_6 : decode cX10_readsAll 6 = .ok (.iconst 0, 1) := by decide +kernel
theorem dX10_readsAll_7 : decode cX10_readsAll 7 = .ok (.putfield 192, 3) := by decide +kernel
theorem dX10_readsAll_10 : decode cX10_readsAll 10 = .ok (.iconst 0, 1) := by decide +kernel
theorem dX10_readsAll_11 : decode cX10_readsAll 11 = .ok (.istore_n 1, 1) := by decide +kernel
theorem dX10_readsAll_12 : decode cX10_readsAll 12 = .ok (.aload_n 0, 1) := by decide +kernel
theorem dX10_readsAll_13 : decode cX10_readsAll 13 = .ok (.invokevirtual 186, 3) := by decide +kernel
theorem dX10_readsAll_16 : decode cX10_readsAll 16 = .ok (.aload_n 0, 1) := by decide +kernel
theorem dX10_readsAll_17 : decode cX10_readsAll 17 = .ok (.getfield 165, 3) := by decide +kernel
theorem dX10_readsAll_20 : decode cX10_readsAll 20 = .ok (.ifCond .eq 95, 3) := by decide +kernel
theorem dX10_readsAll_23 : decode cX10_readsAll 23 = .ok (.iload_n 1, 1) := by decide +kernel
theorem dX10_readsAll_24 : decode cX10_readsAll 24 = .ok (.ifCond .le 44, 3) := by decide +kernel
theorem dX10_readsAll_27 : decode cX10_readsAll 27 = .ok (.aload_n 0, 1) := by decide +kernel
theorem dX10_readsAll_28 : decode cX10_readsAll 28 = .ok (.bipush 125, 2) := by decide +kernel
theorem dX10_readsAll_30 : decode cX10_readsAll 30 = .ok (.invokevirtual 195, 3) := by decide +kernel
theorem dX10_readsAll_33 : decode cX10_readsAll 33 = .ok (.ifCond .eq 35, 3) := by decide +kernel
theorem dX10_readsAll_36 : decode cX10_readsAll 36 = .ok (.iinc 1 (-1), 3) := by decide +kernel
theorem dX10_readsAll_39 : decode cX10_readsAll 39 = .ok (.aload_n 0, 1) := by decide +kernel
theorem dX10_readsAll_40 : decode cX10_readsAll 40 = .ok (.getfield 47, 3) := by decide +kernel
theorem dX10_readsAll_43 : decode cX10_readsAll 43 = .ok (.aload_n 0, 1) := by decide +kernel
theorem dX10_readsAll_44 : decode cX10_readsAll 44 = .ok (.getfield 50, 3) := by decide +kernel
theorem dX10_readsAll_47 : decode cX10_readsAll 47 = .ok (.iload_n 1, 1) := by decide +kernel
theorem dX10_readsAll_48 : decode cX10_readsAll 48 = .ok (.iaload, 1) := by decide +kernel
theorem dX10_readsAll_49 : decode cX10_readsAll 49 = .ok (.aload_n 0, 1) := by decide +kernel
theorem dX10_readsAll_50 : decode cX10_readsAll 50 = .ok (.getfield 192, 3) := by decide +kernel
theorem dX10_readsAll_53 : decode cX10_readsAll 53 = .ok (.iastore, 1) := by decide +kernel
theorem dX10_readsAll_54 : decode cX10_readsAll 54 = .ok (.aload_n 0, 1) := by decide +kernel
theorem dX10_readsAll_55 : decode cX10_readsAll 55 = .ok (.bipush 125, 2) := by decide +kernel
theorem dX10_readsAll_57 : decode cX10_readsAll 57 = .ok (.iconst 0, 1) := by decide +kernel
theorem dX10_readsAll_58 : decode cX10_readsAll 58 = .ok (.invokevirtual 198, 3) := by decide +kernel
theorem dX10_readsAll_61 : decode cX10_readsAll 61 = .ok (.aload_n 0, 1) := by decide +kernel
theorem dX10_readsAll_62 : decode cX10_readsAll 62 = .ok (.invokevirtual 186, 3) := by decide +kernel
theorem dX10_readsAll_65 : decode cX10_readsAll 65 = .ok (.goto (-49), 3) := by decide +kernel
theorem dX10_readsAll_68 : decode cX10_readsAll 68 = .ok (.aload_n 0, 1) := by decide +kernel
theorem dX10_readsAll_69 : decode cX10_readsAll 69 = .ok (.iload_n 1, 1) := by decide +kernel
theorem dX10_readsAll_70 : decode cX10_readsAll 70 = .ok (.invokevirtual 206, 3) := by decide +kernel
theorem dX10_readsAll_73 : decode cX10_readsAll 73 = .ok (.ifCond .ne 5, 3) := by decide +kernel
theorem dX10_readsAll_76 : decode cX10_readsAll 76 = .ok (.iconst 0, 1) := by decide +kernel
theorem dX10_readsAll_77 : decode cX10_readsAll 77 = .ok (.ireturn, 1) := by decide +kernel
theorem dX10_readsAll_78 : decode cX10_readsAll 78 = .ok (.aload_n 0, 1) := by decide +kernel
theorem dX10_readsAll_79 : decode cX10_readsAll 79 = .ok (.getfield 41, 3) := by decide +kernel
theorem dX10_readsAll_82 : decode cX10_readsAll 82 = .ok (.aload_n 0, 1) := by decide +kernel
theorem dX10_readsAll_83 : decode cX10_readsAll 83 = .ok (.getfield 192, 3) := by decide +kernel
theorem dX10_readsAll_86 : decode cX10_readsAll 86 = .ok (.iconst 1, 1) := by decide +kernel
theorem dX10_readsAll_87 : decode cX10_readsAll 87 = .ok (.isub, 1) := by decide +kernel
theorem dX10_readsAll_88 : decode cX10_readsAll 88 = .ok (.iaload, 1) := by decide +kernel
theorem dX10_readsAll_89 : decode cX10_readsAll 89 = .ok (.bipush 123, 2) := by decide +kernel
theorem dX10_readsAll_91 : decode cX10_readsAll 91 = .ok (.if_icmp .eq 6, 3) := by decide +kernel
theorem dX10_readsAll_94 : decode cX10_readsAll 94 = .ok (.goto (-78), 3) := by decide +kernel
theorem dX10_readsAll_97 : decode cX10_readsAll 97 = .ok (.aload_n 0, 1) := by decide +kernel
theorem dX10_readsAll_98 : decode cX10_readsAll 98 = .ok (.getfield 50, 3) := by decide +kernel
theorem dX10_readsAll_101 : decode cX10_readsAll 101 = .ok (.iload_n 1, 1) := by decide +kernel
theorem dX10_readsAll_102 : decode cX10_readsAll 102 = .ok (.aload_n 0, 1) := by decide +kernel
theorem dX10_readsAll_103 : decode cX10_readsAll 103 = .ok (.getfield 192, 3) := by decide +kernel
theorem dX10_readsAll_106 : decode cX10_readsAll 106 = .ok (.iconst 1, 1) := by decide +kernel
theorem dX10_readsAll_107 : decode cX10_readsAll 107 = .ok (.isub, 1) := by decide +kernel
theorem dX10_readsAll_108 : decode cX10_readsAll 108 = .ok (.iastore, 1) := by decide +kernel
theorem dX10_readsAll_109 : decode cX10_readsAll 109 = .ok (.iinc 1 1, 3) := by decide +kernel
theorem dX10_readsAll_112 : decode cX10_readsAll 112 = .ok (.goto (-96), 3) := by decide +kernel
theorem dX10_readsAll_115 : decode cX10_readsAll 115 = .ok (.iload_n 1, 1) := by decide +kernel
theorem dX10_readsAll_116 : decode cX10_readsAll 116 = .ok (.ifCond .ne 7, 3) := by decide +kernel
theorem dX10_readsAll_119 : decode cX10_readsAll 119 = .ok (.iconst 1, 1) := by decide +kernel
theorem dX10_readsAll_120 : decode cX10_readsAll 120 = .ok (.goto 4, 3) := by decide +kernel
theorem dX10_readsAll_123 : decode cX10_readsAll 123 = .ok (.iconst 0, 1) := by decide +kernel
theorem dX10_readsAll_124 : decode cX10_readsAll 124 = .ok (.ireturn, 1) := by decide +kernel
theorem dX10_does_0 : decode cX10_does 0 = .ok (.iload_n 1, 1) := by decide +kernel
theorem dX10_does_1 : decode cX10_does 1 = .ok (.tableswitch 165 37 62 #[134, 165, 165, 165, 165, 165, 139, 124, 129, 119, 165, 165, 165, 165, 165, 165, 165, 165, 165, 165, 165, 165, 165, 158, 145, 151], 119) := by decide +kernel
theorem dX10_does_120 : decode cX10_does 120 = .ok (.aload_n 0, 1) := by decide +kernel
theorem dX10_does_121 : decode cX10_does 121 = .ok (.invokevirtual 119, 3) := by decide +kernel
theorem dX10_does_124 : decode cX10_does 124 = .ok (.ireturn, 1) := by decide +kernel
theorem dX10_does_125 : decode cX10_does 125 = .ok (.aload_n 0, 1) := by decide +kernel
theorem dX10_does_126 : decode cX10_does 126 = .ok (.invokevirtual 122, 3) := by decide +kernel
theorem dX10_does_129 : decode cX10_does 129 = .ok (.ireturn, 1) := by decide +kernel
theorem dX10_does_130 : decode cX10_does 130 = .ok (.aload_n 0, 1) := by decide +kernel
theorem dX10_does_131 : decode cX10_does 131 = .ok (.invokevirtual 134, 3) := by decide +kernel
theorem dX10_does_134 : decode cX10_does 134 = .ok (.ireturn, 1) := by decide +kernel
theorem dX10_does_135 : decode cX10_does 135 = .ok (.aload_n 0, 1) := by decide +kernel
theorem dX10_does_136 : decode cX10_does 136 = .ok (.invokevirtual 144, 3) := by decide +kernel
theorem dX10_does_139 : decode cX10_does 139 = .ok (.ireturn, 1) := by decide +kernel
theorem dX10_does_140 : decode cX10_does 140 = .ok (.aload_n 0, 1) := by decide +kernel
theorem dX10_does_141 : decode cX10_does 141 = .ok (.iload_n 2, 1) := by decide +kernel
theorem dX10_does_142 : decode cX10_does 142 = .ok (.invokevirtual 128, 3) := by decide +kernel
theorem dX10_does_145 : decode cX10_does 145 = .ok (.ireturn, 1) := by decide +kernel
theorem dX10_does_146 : decode cX10_does 146 = .ok (.aload_n 0, 1) := by decide +kernel
theorem dX10_does_147 : decode cX10_does 147 = .ok (.iload_n 2, 1) := by decide +kernel
theorem dX10_does_148 : decode cX10_does 148 = .ok (.invokevirtual 131, 3) := by decide +kernel
theorem dX10_does_151 : decode cX10_does 151 = .ok (.ireturn, 1) := by decide +kernel
theorem dX10_does_152 : decode cX10_does 152 = .ok (.aload_n 0, 1) := by decide +kernel
theorem dX10_does_153 : decode cX10_does 153 = .ok (.iload_n 2, 1) := by decide +kernel
theorem dX10_does_154 : decode cX10_does 154 = .ok (.iconst 0, 1) := by decide +kernel
theorem dX10_does_155 : decode cX10_does 155 = .ok (.invokevirtual 140, 3) := by decide +kernel
theorem dX10_does_158 : decode cX10_does 158 = .ok (.ireturn, 1) := by decide +kernel
theorem dX10_does_159 : decode cX10_does 159 = .ok (.aload_n 0, 1) := by decide +kernel
theorem dX10_does_160 : decode cX10_does 160 = .ok (.iload_n 2, 1) := by decide +kernel
theorem dX10_does_161 : decode cX10_does 161 = .ok (.iconst 1, 1) := by decide +kernel
theorem dX10_does_162 : decode cX10_does 162 = .ok (.invokevirtual 140, 3) := by decide +kernel
theorem dX10_does_165 : decode cX10_does 165 = .ok (.ireturn, 1) := by decide +kernel
theorem dX10_does_166 : decode cX10_does 166 = .ok (.aload_n 0, 1) := by decide +kernel
theorem dX10_does_167 : decode cX10_does 167 = .ok (.iload_n 2, 1) := by decide +kernel
theorem dX10_does_168 : decode cX10_does 168 = .ok (.invokevirtual 137, 3) := by decide +kernel
theorem dX10_does_171 : decode cX10_does 171 = .ok (.ireturn, 1) := by decide +kernel
theorem dX10_runs_0 : decode cX10_runs 0 = .ok (.iconst 0, 1) := by decide +kernel
theorem dX10_runs_1 : decode cX10_runs 1 = .ok (.istore_n 1, 1) := by decide +kernel
theorem dX10_runs_2 : decode cX10_runs 2 = .ok (.iconst 0, 1) := by decide +kernel
theorem dX10_runs_3 : decode cX10_runs 3 = .ok (.istore_n 2, 1) := by decide +kernel
theorem dX10_runs_4 : decode cX10_runs 4 = .ok (.iconst 0, 1) := by decide +kernel
theorem dX10_runs_5 : decode cX10_runs 5 = .ok (.istore_n 3, 1) := by decide +kernel
theorem dX10_runs_6 : decode cX10_runs 6 = .ok (.iload_n 3, 1) := by decide +kernel
theorem dX10_runs_7 : decode cX10_runs 7 = .ok (.aload_n 0, 1) := by decide +kernel
theorem dX10_runs_8 : decode cX10_runs 8 = .ok (.getfield 192, 3) := by decide +kernel
theorem dX10_runs_11 : decode cX10_runs 11 = .ok (.if_icmp .ge 259, 3) := by decide +kernel
theorem dX10_runs_14 : decode cX10_runs 14 = .ok (.aload_n 0, 1) := by decide +kernel
theorem dX10_runs_15 : decode cX10_runs 15 = .ok (.getfield 41, 3) := by decide +kernel
theorem dX10_runs_18 : decode cX10_runs 18 = .ok (.iload_n 3, 1) := by decide +kernel
theorem dX10_runs_19 : decode cX10_runs 19 = .ok (.iaload, 1) := by decide +kernel
theorem dX10_runs_20 : decode cX10_runs 20 = .ok (.istore 4, 2) := by decide +kernel
theorem dX10_runs_22 : decode cX10_runs 22 = .ok (.iload 4, 2) := by decide +kernel
theorem dX10_runs_24 : decode cX10_runs 24 = .ok (.bipush 123, 2) := by decide +kernel
theorem dX10_runs_26 : decode cX10_runs 26 = .ok (.if_icmp .ne 35, 3) := by decide +kernel
theorem dX10_runs_29 : decode cX10_runs 29 = .ok (.aload_n 0, 1) := by decide +kernel
theorem dX10_runs_30 : decode cX10_runs 30 = .ok (.getfield 50, 3) := by decide +kernel
theorem dX10_runs_33 : decode cX10_runs 33 = .ok (.iload_n 1, 1) := by decide +kernel
theorem dX10_runs_34 : decode cX10_runs 34 = .ok (.iload_n 3, 1) := by decide +kernel
theorem dX10_runs_35 : decode cX10_runs 35 = .ok (.iastore, 1) := by decide +kernel
theorem dX10_runs_36 : decode cX10_runs 36 = .ok (.aload_n 0, 1) := by decide +kernel
theorem dX10_runs_37 : decode cX10_runs 37 = .ok (.getfield 53, 3) := by decide +kernel
theorem dX10_runs_40 : decode cX10_runs 40 = .ok (.iload_n 1, 1) := by decide +kernel
theorem dX10_runs_41 : decode cX10_runs 41 = .ok (.aload_n 0, 1) := by decide +kernel
theorem dX10_runs_42 : decode cX10_runs 42 = .ok (.getfield 44, 3) := by decide +kernel
theorem dX10_runs_45 : decode cX10_runs 45 = .ok (.iload_n 3, 1) := by decide +kernel
theorem dX10_runs_46 : decode cX10_runs 46 = .ok (.iaload, 1) := by decide +kernel
theorem dX10_runs_47 : decode cX10_runs 47 = .ok (.iastore, 1) := by decide +kernel
theorem dX10_runs_48 : decode cX10_runs 48 = .ok (.aload_n 0, 1) := by decide +kernel
theorem dX10_runs_49 : decode cX10_runs 49 = .ok (.getfield 56, 3) := by decide +kernel
theorem dX10_runs_52 : decode cX10_runs 52 = .ok (.iload_n 1, 1) := by decide +kernel
theorem dX10_runs_53 : decode cX10_runs 53 = .ok (.iload_n 2, 1) := by decide +kernel
theorem dX10_runs_54 : decode cX10_runs 54 = .ok (.iastore, 1) := by decide +kernel
theorem dX10_runs_55 : decode cX10_runs 55 = .ok (.iinc 1 1, 3) := by decide +kernel
theorem dX10_runs_58 : decode cX10_runs 58 = .ok (.goto 206, 3) := by decide +kernel
theorem dX10_runs_61 : decode cX10_runs 61 = .ok (.iload 4, 2) := by decide +kernel
theorem dX10_runs_63 : decode cX10_runs 63 = .ok (.bipush 125, 2) := by decide +kernel
theorem dX10_runs_65 : decode cX10_runs 65 = .ok (.if_icmp .ne 111, 3) := by decide +kernel
theorem dX10_runs_68 : decode cX10_runs 68 = .ok (.iload_n 1, 1) := by decide +kernel
theorem dX10_runs_69 : decode cX10_runs 69 = .ok (.iconst 1, 1) := by decide +kernel
theorem dX10_runs_70 : decode cX10_runs 70 = .ok (.isub, 1) := by decide +kernel
theorem dX10_runs_71 : decode cX10_runs 71 = .ok (.istore 5, 2) := by decide +kernel
theorem dX10_runs_73 : decode cX10_runs 73 = .ok (.aload_n 0, 1) := by decide +kernel
theorem dX10_runs_74 : decode cX10_runs 74 = .ok (.getfield 53, 3) := by decide +kernel
theorem dX10_runs_77 : decode cX10_runs 77 = .ok (.iload 5, 2) := by decide +kernel
theorem dX10_runs_79 : decode cX10_runs 79 = .ok (.iaload, 1) := by decide +kernel
theorem dX10_runs_80 : decode cX10_runs 80 = .ok (.ifCond .ne 22, 3) := by decide +kernel
theorem dX10_runs_83 : decode cX10_runs 83 = .ok (.iload_n 2, 1) := by decide +kernel
theorem dX10_runs_84 : decode cX10_runs 84 = .ok (.aload_n 0, 1) := by decide +kernel
theorem dX10_runs_85 : decode cX10_runs 85 = .ok (.getfield 56, 3) := by decide +kernel
theorem dX10_runs_88 : decode cX10_runs 88 = .ok (.iload 5, 2) := by decide +kernel
theorem dX10_runs_90 : decode cX10_runs 90 = .ok (.iaload, 1) := by decide +kernel
theorem dX10_runs_91 : decode cX10_runs 91 = .ok (.if_icmp .le 7, 3) := by decide +kernel
theorem dX10_runs_94 : decode cX10_runs 94 = .ok (.iconst 1, 1) := by decide +kernel
theorem dX10_runs_95 : decode cX10_runs 95 = .ok (.goto 23, 3) := by decide +kernel
theorem dX10_runs_98 : decode cX10_runs 98 = .ok (.iconst 0, 1) := by decide +kernel
theorem dX10_runs_99 : decode cX10_runs 99 = .ok (.goto 19, 3) := by decide +kernel
theorem dX10_runs_102 : decode cX10_runs 102 = .ok (.aload_n 0, 1) := by decide +kernel
theorem dX10_runs_103 : decode cX10_runs 103 = .ok (.getfield 53, 3) := by decide +kernel
theorem dX10_runs_106 : decode cX10_runs 106 = .ok (.iload 5, 2) := by decide +kernel
theorem dX10_runs_108 : decode cX10_runs 108 = .ok (.iaload, 1) := by decide +kernel
theorem dX10_runs_109 : decode cX10_runs 109 = .ok (.iconst 1, 1) := by decide +kernel
theorem dX10_runs_110 : decode cX10_runs 110 = .ok (.if_icmp .le 7, 3) := by decide +kernel
theorem dX10_runs_113 : decode cX10_runs 113 = .ok (.iconst 1, 1) := by decide +kernel
theorem dX10_runs_114 : decode cX10_runs 114 = .ok (.goto 4, 3) := by decide +kernel
theorem dX10_runs_117 : decode cX10_runs 117 = .ok (.iconst 0, 1) := by decide +kernel
theorem dX10_runs_118 : decode cX10_runs 118 = .ok (.istore 6, 2) := by decide +kernel
theorem dX10_runs_120 : decode cX10_runs 120 = .ok (.aload_n 0, 1) := by decide +kernel
theorem dX10_runs_121 : decode cX10_runs 121 = .ok (.getfield 56, 3) := by decide +kernel
theorem dX10_runs_124 : decode cX10_runs 124 = .ok (.iload 5, 2) := by decide +kernel
theorem dX10_runs_126 : decode cX10_runs 126 = .ok (.iload_n 2, 1) := by decide +kernel
theorem dX10_runs_127 : decode cX10_runs 127 = .ok (.iastore, 1) := by decide +kernel
theorem dX10_runs_128 : decode cX10_runs 128 = .ok (.iload 6, 2) := by decide +kernel
theorem dX10_runs_130 : decode cX10_runs 130 = .ok (.ifCond .eq 24, 3) := by decide +kernel
theorem dX10_runs_133 : decode cX10_runs 133 = .ok (.aload_n 0, 1) := by decide +kernel
theorem dX10_runs_134 : decode cX10_runs 134 = .ok (.getfield 53, 3) := by decide +kernel
theorem dX10_runs_137 : decode cX10_runs 137 = .ok (.iload 5, 2) := by decide +kernel
theorem dX10_runs_139 : decode cX10_runs 139 = .ok (.iaload, 1) := by decide +kernel
theorem dX10_runs_140 : decode cX10_runs 140 = .ok (.ifCond .le 14, 3) := by decide +kernel
theorem dX10_runs_143 : decode cX10_runs 143 = .ok (.aload_n 0, 1) := by decide +kernel
theorem dX10_runs_144 : decode cX10_runs 144 = .ok (.getfield 53, 3) := by decide +kernel
theorem dX10_runs_147 : decode cX10_runs 147 = .ok (.iload 5, 2) := by decide +kernel
theorem dX10_runs_149 : decode cX10_runs 149 = .ok (.dup2, 1) := by decide +kernel
theorem dX10_runs_150 : decode cX10_runs 150 = .ok (.iaload, 1) := by decide +kernel
theorem dX10_runs_151 : decode cX10_runs 151 = .ok (.iconst 1, 1) := by decide +kernel
theorem dX10_runs_152 : decode cX10_runs 152 = .ok (.isub, 1) := by decide +kernel
theorem dX10_runs_153 : decode cX10_runs 153 = .ok (.iastore, 1) := by decide +kernel
theorem dX10_runs_154 : decode cX10_runs 154 = .ok (.iload 6, 2) := by decide +kernel
theorem dX10_runs_156 : decode cX10_runs 156 = .ok (.ifCond .eq 14, 3) := by decide +kernel
theorem dX10_runs_159 : decode cX10_runs 159 = .ok (.aload_n 0, 1) := by decide +kernel
theorem dX10_runs_160 : decode cX10_runs 160 = .ok (.getfield 50, 3) := by decide +kernel
theorem dX10_runs_163 : decode cX10_runs 163 = .ok (.iload 5, 2) := by decide +kernel
theorem dX10_runs_165 : decode cX10_runs 165 = .ok (.iaload, 1) := by decide +kernel
theorem dX10_runs_166 : decode cX10_runs 166 = .ok (.istore_n 3, 1) := by decide +kernel
theorem dX10_runs_167 : decode cX10_runs 167 = .ok (.goto 6, 3) := by decide +kernel
theorem dX10_runs_170 : decode cX10_runs 170 = .ok (.iinc 1 (-1), 3) := by decide +kernel
theorem dX10_runs_173 : decode cX10_runs 173 = .ok (.goto 91, 3) := by decide +kernel
theorem dX10_runs_176 : decode cX10_runs 176 = .ok (.iload_n 2, 1) := by decide +kernel
theorem dX10_runs_177 : decode cX10_runs 177 = .ok (.sipush 300, 3) := by decide +kernel
theorem dX10_runs_180 : decode cX10_runs 180 = .ok (.if_icmp .ne 11, 3) := by decide +kernel
theorem dX10_runs_183 : decode cX10_runs 183 = .ok (.aload_n 0, 1) := by decide +kernel
theorem dX10_runs_184 : decode cX10_runs 184 = .ok (.bipush (-6), 2) := by decide +kernel
theorem dX10_runs_186 : decode cX10_runs 186 = .ok (.putfield 209, 3) := by decide +kernel
theorem dX10_runs_189 : decode cX10_runs 189 = .ok (.iload_n 2, 1) := by decide +kernel
theorem dX10_runs_190 : decode cX10_runs 190 = .ok (.ireturn, 1) := by decide +kernel
theorem dX10_runs_191 : decode cX10_runs 191 = .ok (.aload_n 0, 1) := by decide +kernel
theorem dX10_runs_192 : decode cX10_runs 192 = .ok (.iload 4, 2) := by decide +kernel
theorem dX10_runs_194 : decode cX10_runs 194 = .ok (.aload_n 0, 1) := by decide +kernel
theorem dX10_runs_195 : decode cX10_runs 195 = .ok (.getfield 44, 3) := by decide +kernel
theorem dX10_runs_198 : decode cX10_runs 198 = .ok (.iload_n 3, 1) := by decide +kernel
theorem dX10_runs_199 : decode cX10_runs 199 = .ok (.iaload, 1) := by decide +kernel
theorem dX10_runs_200 : decode cX10_runs 200 = .ok (.invokevirtual 212, 3) := by decide +kernel
theorem dX10_runs_203 : decode cX10_runs 203 = .ok (.istore 5, 2) := by decide +kernel
theorem dX10_runs_205 : decode cX10_runs 205 = .ok (.iload 5, 2) := by decide +kernel
theorem dX10_runs_207 : decode cX10_runs 207 = .ok (.ifCond .lt 9, 3) := by decide +kernel
theorem dX10_runs_210 : decode cX10_runs 210 = .ok (.iinc 2 1, 3) := by decide +kernel
theorem dX10_runs_213 : decode cX10_runs 213 = .ok (.goto 51, 3) := by decide +kernel
theorem dX10_runs_216 : decode cX10_runs 216 = .ok (.iload_n 1, 1) := by decide +kernel
theorem dX10_runs_217 : decode cX10_runs 217 = .ok (.ifCond .le 20, 3) := by decide +kernel
theorem dX10_runs_220 : decode cX10_runs 220 = .ok (.aload_n 0, 1) := by decide +kernel
theorem dX10_runs_221 : decode cX10_runs 221 = .ok (.getfield 53, 3) := by decide +kernel
theorem dX10_runs_224 : decode cX10_runs 224 = .ok (.iload_n 1, 1) := by decide +kernel
theorem dX10_runs_225 : decode cX10_runs 225 = .ok (.iconst 1, 1) := by decide +kernel
theorem dX10_runs_226 : decode cX10_runs 226 = .ok (.isub, 1) := by decide +kernel
theorem dX10_runs_227 : decode cX10_runs 227 = .ok (.iaload, 1) := by decide +kernel
theorem dX10_runs_228 : decode cX10_runs 228 = .ok (.ifCond .le 9, 3) := by decide +kernel
theorem dX10_runs_231 : decode cX10_runs 231 = .ok (.iinc 1 (-1), 3) := by decide +kernel
theorem dX10_runs_234 : decode cX10_runs 234 = .ok (.goto (-18), 3) := by decide +kernel
theorem dX10_runs_237 : decode cX10_runs 237 = .ok (.iload_n 1, 1) := by decide +kernel
theorem dX10_runs_238 : decode cX10_runs 238 = .ok (.ifCond .ne 11, 3) := by decide +kernel
theorem dX10_runs_241 : decode cX10_runs 241 = .ok (.aload_n 0, 1) := by decide +kernel
theorem dX10_runs_242 : decode cX10_runs 242 = .ok (.iload 5, 2) := by decide +kernel
theorem dX10_runs_244 : decode cX10_runs 244 = .ok (.putfield 209, 3) := by decide +kernel
theorem dX10_runs_247 : decode cX10_runs 247 = .ok (.iload_n 2, 1) := by decide +kernel
theorem dX10_runs_248 : decode cX10_runs 248 = .ok (.ireturn, 1) := by decide +kernel
theorem dX10_runs_249 : decode cX10_runs 249 = .ok (.iinc 1 (-1), 3) := by decide +kernel
theorem dX10_runs_252 : decode cX10_runs 252 = .ok (.aload_n 0, 1) := by decide +kernel
theorem dX10_runs_253 : decode cX10_runs 253 = .ok (.getfield 47, 3) := by decide +kernel
theorem dX10_runs_256 : decode cX10_runs 256 = .ok (.aload_n 0, 1) := by decide +kernel
theorem dX10_runs_257 : decode cX10_runs 257 = .ok (.getfield 50, 3) := by decide +kernel
theorem dX10_runs_260 : decode cX10_runs 260 = .ok (.iload_n 1, 1) := by decide +kernel
theorem dX10_runs_261 : decode cX10_runs 261 = .ok (.iaload, 1) := by decide +kernel
theorem dX10_runs_262 : decode cX10_runs 262 = .ok (.iaload, 1) := by decide +kernel
theorem dX10_runs_263 : decode cX10_runs 263 = .ok (.istore_n 3, 1) := by decide +kernel
theorem dX10_runs_264 : decode cX10_runs 264 = .ok (.iinc 3 1, 3) := by decide +kernel
theorem dX10_runs_267 : decode cX10_runs 267 = .ok (.goto (-261), 3) := by decide +kernel
theorem dX10_runs_270 : decode cX10_runs 270 = .ok (.iload_n 2, 1) := by decide +kernel
theorem dX10_runs_271 : decode cX10_runs 271 = .ok (.ireturn, 1) := by decide +kernel
theorem dX10_run_0 : decode cX10_run 0 = .ok (.aload_n 0, 1) := by decide +kernel
theorem dX10_run_1 : decode cX10_run 1 = .ok (.iconst 0, 1) := by decide +kernel
theorem dX10_run_2 : decode cX10_run 2 = .ok (.putfield 1, 3) := by decide +kernel
theorem dX10_run_5 : decode cX10_run 5 = .ok (.aload_n 0, 1) := by decide +kernel
theorem dX10_run_6 : decode cX10_run 6 = .ok (.invokevirtual 216, 3) := by decide +kernel
theorem dX10_run_9 : decode cX10_run 9 = .ok (.istore_n 1, 1) := by decide +kernel
theorem dX10_run_10 : decode cX10_run 10 = .ok (.aload_n 0, 1) := by decide +kernel
theorem dX10_run_11 : decode cX10_run 11 = .ok (.iload_n 1, 1) := by decide +kernel
theorem dX10_run_12 : decode cX10_run 12 = .ok (.ifCond .eq 7, 3) := by decide +kernel
theorem dX10_run_15 : decode cX10_run 15 = .ok (.iconst (-1), 1) := by decide +kernel
theorem dX10_run_16 : decode cX10_run 16 = .ok (.goto 7, 3) := by decide +kernel
theorem dX10_run_19 : decode cX10_run 19 = .ok (.aload_n 0, 1) := by decide +kernel
theorem dX10_run_20 : decode cX10_run 20 = .ok (.getfield 174, 3) := by decide +kernel
theorem dX10_run_23 : decode cX10_run 23 = .ok (.putfield 35, 3) := by decide +kernel
theorem dX10_run_26 : decode cX10_run 26 = .ok (.aload_n 0, 1) := by decide +kernel
theorem dX10_run_27 : decode cX10_run 27 = .ok (.iconst 0, 1) := by decide +kernel
theorem dX10_run_28 : decode cX10_run 28 = .ok (.putfield 209, 3) := by decide +kernel
theorem dX10_run_31 : decode cX10_run 31 = .ok (.aload_n 0, 1) := by decide +kernel
theorem dX10_run_32 : decode cX10_run 32 = .ok (.iconst 0, 1) := by decide +kernel
theorem dX10_run_33 : decode cX10_run 33 = .ok (.putfield 147, 3) := by decide +kernel
theorem dX10_run_36 : decode cX10_run 36 = .ok (.aload_n 0, 1) := by decide +kernel
theorem dX10_run_37 : decode cX10_run 37 = .ok (.iload_n 1, 1) := by decide +kernel
theorem dX10_run_38 : decode cX10_run 38 = .ok (.iconst 1, 1) := by decide +kernel
theorem dX10_run_39 : decode cX10_run 39 = .ok (.invokevirtual 74, 3) := by decide +kernel
theorem dX10_run_42 : decode cX10_run 42 = .ok (.ifCond .eq 7, 3) := by decide +kernel
theorem dX10_run_45 : decode cX10_run 45 = .ok (.iconst 0, 1) := by decide +kernel
theorem dX10_run_46 : decode cX10_run 46 = .ok (.goto 7, 3) := by decide +kernel
theorem dX10_run_49 : decode cX10_run 49 = .ok (.aload_n 0, 1) := by decide +kernel
theorem dX10_run_50 : decode cX10_run 50 = .ok (.invokevirtual 220, 3) := by decide +kernel
theorem dX10_run_53 : decode cX10_run 53 = .ok (.ireturn, 1) := by decide +kernel
theorem dX10_errorPosition_0 : decode cX10_errorPosition 0 = .ok (.aload_n 0, 1) := by decide +kernel
theorem dX10_errorPosition_1 : decode cX10_errorPosition 1 = .ok (.iconst 0, 1) := by decide +kernel
theorem dX10_errorPosition_2 : decode cX10_errorPosition 2 = .ok (.putfield 1, 3) := by decide +kernel
theorem dX10_errorPosition_5 : decode cX10_errorPosition 5 = .ok (.aload_n 0, 1) := by decide +kernel
theorem dX10_errorPosition_6 : decode cX10_errorPosition 6 = .ok (.getfield 35, 3) := by decide +kernel
theorem dX10_errorPosition_9 : decode cX10_errorPosition 9 = .ok (.ireturn, 1) := by decide +kernel
theorem dX10_endedBy_0 : decode cX10_endedBy 0 = .ok (.aload_n 0, 1) := by decide +kernel
theorem dX10_endedBy_1 : decode cX10_endedBy 1 = .ok (.iconst 0, 1) := by decide +kernel
theorem dX10_endedBy_2 : decode cX10_endedBy 2 = .ok (.putfield 1, 3) := by decide +kernel
theorem dX10_endedBy_5 : decode cX10_endedBy 5 = .ok (.aload_n 0, 1) := by decide +kernel
theorem dX10_endedBy_6 : decode cX10_endedBy 6 = .ok (.getfield 209, 3) := by decide +kernel
theorem dX10_endedBy_9 : decode cX10_endedBy 9 = .ok (.ireturn, 1) := by decide +kernel
theorem dX10_nextIndex_0 : decode cX10_nextIndex 0 = .ok (.aload_n 0, 1) := by decide +kernel
theorem dX10_nextIndex_1 : decode cX10_nextIndex 1 = .ok (.iconst 0, 1) := by decide +kernel
theorem dX10_nextIndex_2 : decode cX10_nextIndex 2 = .ok (.putfield 1, 3) := by decide +kernel
theorem dX10_nextIndex_5 : decode cX10_nextIndex 5 = .ok (.aload_n 0, 1) := by decide +kernel
theorem dX10_nextIndex_6 : decode cX10_nextIndex 6 = .ok (.getfield 81, 3) := by decide +kernel
theorem dX10_nextIndex_9 : decode cX10_nextIndex 9 = .ok (.ireturn, 1) := by decide +kernel
theorem dX10_previousIndex_0 : decode cX10_previousIndex 0 = .ok (.aload_n 0, 1) := by decide +kernel
theorem dX10_previousIndex_1 : decode cX10_previousIndex 1 = .ok (.iconst 0, 1) := by decide +kernel
theorem dX10_previousIndex_2 : decode cX10_previousIndex 2 = .ok (.putfield 1, 3) := by decide +kernel
theorem dX10_previousIndex_5 : decode cX10_previousIndex 5 = .ok (.aload_n 0, 1) := by decide +kernel
theorem dX10_previousIndex_6 : decode cX10_previousIndex 6 = .ok (.getfield 81, 3) := by decide +kernel
theorem dX10_previousIndex_9 : decode cX10_previousIndex 9 = .ok (.iconst 1, 1) := by decide +kernel
theorem dX10_previousIndex_10 : decode cX10_previousIndex 10 = .ok (.isub, 1) := by decide +kernel
theorem dX10_previousIndex_11 : decode cX10_previousIndex 11 = .ok (.ireturn, 1) := by decide +kernel
theorem dX10_hasNext_0 : decode cX10_hasNext 0 = .ok (.aload_n 0, 1) := by decide +kernel
theorem dX10_hasNext_1 : decode cX10_hasNext 1 = .ok (.iconst 0, 1) := by decide +kernel
theorem dX10_hasNext_2 : decode cX10_hasNext 2 = .ok (.putfield 1, 3) := by decide +kernel
theorem dX10_hasNext_5 : decode cX10_hasNext 5 = .ok (.aload_n 0, 1) := by decide +kernel
theorem dX10_hasNext_6 : decode cX10_hasNext 6 = .ok (.getfield 94, 3) := by decide +kernel
theorem dX10_hasNext_9 : decode cX10_hasNext 9 = .ok (.ifCond .le 7, 3) := by decide +kernel
theorem dX10_hasNext_12 : decode cX10_hasNext 12 = .ok (.iconst 1, 1) := by decide +kernel
theorem dX10_hasNext_13 : decode cX10_hasNext 13 = .ok (.goto 4, 3) := by decide +kernel
theorem dX10_hasNext_16 : decode cX10_hasNext 16 = .ok (.iconst 0, 1) := by decide +kernel
theorem dX10_hasNext_17 : decode cX10_hasNext 17 = .ok (.ireturn, 1) := by decide +kernel
theorem dX10_hasPrevious_0 : decode cX10_hasPrevious 0 = .ok (.aload_n 0, 1) := by decide +kernel
theorem dX10_hasPrevious_1 : decode cX10_hasPrevious 1 = .ok (.iconst 0, 1) := by decide +kernel
theorem dX10_hasPrevious_2 : decode cX10_hasPrevious 2 = .ok (.putfield 1, 3) := by decide +kernel
theorem dX10_hasPrevious_5 : decode cX10_hasPrevious 5 = .ok (.aload_n 0, 1) := by decide +kernel
theorem dX10_hasPrevious_6 : decode cX10_hasPrevious 6 = .ok (.getfield 81, 3) := by decide +kernel
theorem dX10_hasPrevious_9 : decode cX10_hasPrevious 9 = .ok (.ifCond .le 7, 3) := by decide +kernel
theorem dX10_hasPrevious_12 : decode cX10_hasPrevious 12 = .ok (.iconst 1, 1) := by decide +kernel
theorem dX10_hasPrevious_13 : decode cX10_hasPrevious 13 = .ok (.goto 4, 3) := by decide +kernel
theorem dX10_hasPrevious_16 : decode cX10_hasPrevious 16 = .ok (.iconst 0, 1) := by decide +kernel
theorem dX10_hasPrevious_17 : decode cX10_hasPrevious 17 = .ok (.ireturn, 1) := by decide +kernel
theorem dX10_ahead_0 : decode cX10_ahead 0 = .ok (.aload_n 0, 1) := by decide +kernel
theorem dX10_ahead_1 : decode cX10_ahead 1 = .ok (.iconst 0, 1) := by decide +kernel
theorem dX10_ahead_2 : decode cX10_ahead 2 = .ok (.putfield 1, 3) := by decide +kernel
theorem dX10_ahead_5 : decode cX10_ahead 5 = .ok (.iload_n 1, 1) := by decide +kernel
theorem dX10_ahead_6 : decode cX10_ahead 6 = .ok (.iconst 0, 1) := by decide +kernel
theorem dX10_ahead_7 : decode cX10_ahead 7 = .ok (.aload_n 0, 1) := by decide +kernel
theorem dX10_ahead_8 : decode cX10_ahead 8 = .ok (.getfield 94, 3) := by decide +kernel
theorem dX10_ahead_11 : decode cX10_ahead 11 = .ok (.iconst 1, 1) := by decide +kernel
theorem dX10_ahead_12 : decode cX10_ahead 12 = .ok (.isub, 1) := by decide +kernel
theorem dX10_ahead_13 : decode cX10_ahead 13 = .ok (.invokestatic 66, 3) := by decide +kernel
theorem dX10_ahead_16 : decode cX10_ahead 16 = .ok (.ifCond .eq 19, 3) := by decide +kernel
theorem dX10_ahead_19 : decode cX10_ahead 19 = .ok (.aload_n 0, 1) := by decide +kernel
theorem dX10_ahead_20 : decode cX10_ahead 20 = .ok (.getfield 17, 3) := by decide +kernel
theorem dX10_ahead_23 : decode cX10_ahead 23 = .ok (.aload_n 0, 1) := by decide +kernel
theorem dX10_ahead_24 : decode cX10_ahead 24 = .ok (.getfield 94, 3) := by decide +kernel
theorem dX10_ahead_27 : decode cX10_ahead 27 = .ok (.iconst 1, 1) := by decide +kernel
theorem dX10_ahead_28 : decode cX10_ahead 28 = .ok (.isub, 1) := by decide +kernel
theorem dX10_ahead_29 : decode cX10_ahead 29 = .ok (.iload_n 1, 1) := by decide +kernel
theorem dX10_ahead_30 : decode cX10_ahead 30 = .ok (.isub, 1) := by decide +kernel
theorem dX10_ahead_31 : decode cX10_ahead 31 = .ok (.iaload, 1) := by decide +kernel
theorem dX10_ahead_32 : decode cX10_ahead 32 = .ok (.goto 4, 3) := by decide +kernel
theorem dX10_ahead_35 : decode cX10_ahead 35 = .ok (.iconst (-1), 1) := by decide +kernel
theorem dX10_ahead_36 : decode cX10_ahead 36 = .ok (.ireturn, 1) := by decide +kernel
theorem dX10_behind_0 : decode cX10_behind 0 = .ok (.aload_n 0, 1) := by decide +kernel
theorem dX10_behind_1 : decode cX10_behind 1 = .ok (.iconst 0, 1) := by decide +kernel
theorem dX10_behind_2 : decode cX10_behind 2 = .ok (.putfield 1, 3) := by decide +kernel
theorem dX10_behind_5 : decode cX10_behind 5 = .ok (.iload_n 1, 1) := by decide +kernel
theorem dX10_behind_6 : decode cX10_behind 6 = .ok (.iconst 0, 1) := by decide +kernel
theorem dX10_behind_7 : decode cX10_behind 7 = .ok (.aload_n 0, 1) := by decide +kernel
theorem dX10_behind_8 : decode cX10_behind 8 = .ok (.getfield 81, 3) := by decide +kernel
theorem dX10_behind_11 : decode cX10_behind 11 = .ok (.iconst 1, 1) := by decide +kernel
theorem dX10_behind_12 : decode cX10_behind 12 = .ok (.isub, 1) := by decide +kernel
theorem dX10_behind_13 : decode cX10_behind 13 = .ok (.invokestatic 66, 3) := by decide +kernel
theorem dX10_behind_16 : decode cX10_behind 16 = .ok (.ifCond .eq 19, 3) := by decide +kernel
theorem dX10_behind_19 : decode cX10_behind 19 = .ok (.aload_n 0, 1) := by decide +kernel
theorem dX10_behind_20 : decode cX10_behind 20 = .ok (.getfield 13, 3) := by decide +kernel
theorem dX10_behind_23 : decode cX10_behind 23 = .ok (.aload_n 0, 1) := by decide +kernel
theorem dX10_behind_24 : decode cX10_behind 24 = .ok (.getfield 81, 3) := by decide +kernel
theorem dX10_behind_27 : decode cX10_behind 27 = .ok (.iconst 1, 1) := by decide +kernel
theorem dX10_behind_28 : decode cX10_behind 28 = .ok (.isub, 1) := by decide +kernel
theorem dX10_behind_29 : decode cX10_behind 29 = .ok (.iload_n 1, 1) := by decide +kernel
theorem dX10_behind_30 : decode cX10_behind 30 = .ok (.isub, 1) := by decide +kernel
theorem dX10_behind_31 : decode cX10_behind 31 = .ok (.iaload, 1) := by decide +kernel
theorem dX10_behind_32 : decode cX10_behind 32 = .ok (.goto 4, 3) := by decide +kernel
theorem dX10_behind_35 : decode cX10_behind 35 = .ok (.iconst (-1), 1) := by decide +kernel
theorem dX10_behind_36 : decode cX10_behind 36 = .ok (.ireturn, 1) := by decide +kernel
theorem dX10_given_0 : decode cX10_given 0 = .ok (.aload_n 0, 1) := by decide +kernel
theorem dX10_given_1 : decode cX10_given 1 = .ok (.iconst 0, 1) := by decide +kernel
theorem dX10_given_2 : decode cX10_given 2 = .ok (.putfield 1, 3) := by decide +kernel
theorem dX10_given_5 : decode cX10_given 5 = .ok (.aload_n 0, 1) := by decide +kernel
theorem dX10_given_6 : decode cX10_given 6 = .ok (.invokevirtual 112, 3) := by decide +kernel
theorem dX10_given_9 : decode cX10_given 9 = .ok (.ireturn, 1) := by decide +kernel
theorem dX10_givenBy_0 : decode cX10_givenBy 0 = .ok (.aload_n 0, 1) := by decide +kernel
theorem dX10_givenBy_1 : decode cX10_givenBy 1 = .ok (.iconst 0, 1) := by decide +kernel
theorem dX10_givenBy_2 : decode cX10_givenBy 2 = .ok (.putfield 1, 3) := by decide +kernel
theorem dX10_givenBy_5 : decode cX10_givenBy 5 = .ok (.aload_n 0, 1) := by decide +kernel
theorem dX10_givenBy_6 : decode cX10_givenBy 6 = .ok (.getfield 109, 3) := by decide +kernel
theorem dX10_givenBy_9 : decode cX10_givenBy 9 = .ok (.ireturn, 1) := by decide +kernel
theorem dX10_refusedNow_0 : decode cX10_refusedNow 0 = .ok (.aload_n 0, 1) := by decide +kernel
theorem dX10_refusedNow_1 : decode cX10_refusedNow 1 = .ok (.iconst 0, 1) := by decide +kernel
theorem dX10_refusedNow_2 : decode cX10_refusedNow 2 = .ok (.putfield 1, 3) := by decide +kernel
theorem dX10_refusedNow_5 : decode cX10_refusedNow 5 = .ok (.aload_n 0, 1) := by decide +kernel
theorem dX10_refusedNow_6 : decode cX10_refusedNow 6 = .ok (.getfield 94, 3) := by decide +kernel
theorem dX10_refusedNow_9 : decode cX10_refusedNow 9 = .ok (.ifCond .ne 7, 3) := by decide +kernel
theorem dX10_refusedNow_12 : decode cX10_refusedNow 12 = .ok (.iconst 1, 1) := by decide +kernel
theorem dX10_refusedNow_13 : decode cX10_refusedNow 13 = .ok (.goto 4, 3) := by decide +kernel
theorem dX10_refusedNow_16 : decode cX10_refusedNow 16 = .ok (.iconst 0, 1) := by decide +kernel
theorem dX10_refusedNow_17 : decode cX10_refusedNow 17 = .ok (.aload_n 0, 1) := by decide +kernel
theorem dX10_refusedNow_18 : decode cX10_refusedNow 18 = .ok (.getfield 81, 3) := by decide +kernel
theorem dX10_refusedNow_21 : decode cX10_refusedNow 21 = .ok (.ifCond .ne 7, 3) := by decide +kernel
theorem dX10_refusedNow_24 : decode cX10_refusedNow 24 = .ok (.iconst 2, 1) := by decide +kernel
theorem dX10_refusedNow_25 : decode cX10_refusedNow 25 = .ok (.goto 4, 3) := by decide +kernel
theorem dX10_refusedNow_28 : decode cX10_refusedNow 28 = .ok (.iconst 0, 1) := by decide +kernel
theorem dX10_refusedNow_29 : decode cX10_refusedNow 29 = .ok (.iadd, 1) := by decide +kernel
theorem dX10_refusedNow_30 : decode cX10_refusedNow 30 = .ok (.aload_n 0, 1) := by decide +kernel
theorem dX10_refusedNow_31 : decode cX10_refusedNow 31 = .ok (.invokevirtual 84, 3) := by decide +kernel
theorem dX10_refusedNow_34 : decode cX10_refusedNow 34 = .ok (.bipush 100, 2) := by decide +kernel
theorem dX10_refusedNow_36 : decode cX10_refusedNow 36 = .ok (.if_icmp .ne 7, 3) := by decide +kernel
theorem dX10_refusedNow_39 : decode cX10_refusedNow 39 = .ok (.iconst 4, 1) := by decide +kernel
theorem dX10_refusedNow_40 : decode cX10_refusedNow 40 = .ok (.goto 4, 3) := by decide +kernel
theorem dX10_refusedNow_43 : decode cX10_refusedNow 43 = .ok (.iconst 0, 1) := by decide +kernel
theorem dX10_refusedNow_44 : decode cX10_refusedNow 44 = .ok (.iadd, 1) := by decide +kernel
theorem dX10_refusedNow_45 : decode cX10_refusedNow 45 = .ok (.aload_n 0, 1) := by decide +kernel
theorem dX10_refusedNow_46 : decode cX10_refusedNow 46 = .ok (.getfield 109, 3) := by decide +kernel
theorem dX10_refusedNow_49 : decode cX10_refusedNow 49 = .ok (.ifCond .ne 8, 3) := by decide +kernel
theorem dX10_refusedNow_52 : decode cX10_refusedNow 52 = .ok (.bipush 8, 2) := by decide +kernel
theorem dX10_refusedNow_54 : decode cX10_refusedNow 54 = .ok (.goto 4, 3) := by decide +kernel
theorem dX10_refusedNow_57 : decode cX10_refusedNow 57 = .ok (.iconst 0, 1) := by decide +kernel
theorem dX10_refusedNow_58 : decode cX10_refusedNow 58 = .ok (.iadd, 1) := by decide +kernel
theorem dX10_refusedNow_59 : decode cX10_refusedNow 59 = .ok (.istore_n 1, 1) := by decide +kernel
theorem dX10_refusedNow_60 : decode cX10_refusedNow 60 = .ok (.iload_n 1, 1) := by decide +kernel
theorem dX10_refusedNow_61 : decode cX10_refusedNow 61 = .ok (.aload_n 0, 1) := by decide +kernel
theorem dX10_refusedNow_62 : decode cX10_refusedNow 62 = .ok (.getfield 94, 3) := by decide +kernel
theorem dX10_refusedNow_65 : decode cX10_refusedNow 65 = .ok (.ifCond .eq 10, 3) := by decide +kernel
theorem dX10_refusedNow_68 : decode cX10_refusedNow 68 = .ok (.aload_n 0, 1) := by decide +kernel
theorem dX10_refusedNow_69 : decode cX10_refusedNow 69 = .ok (.getfield 81, 3) := by decide +kernel
theorem dX10_refusedNow_72 : decode cX10_refusedNow 72 = .ok (.ifCond .ne 8, 3) := by decide +kernel
theorem dX10_refusedNow_75 : decode cX10_refusedNow 75 = .ok (.bipush 16, 2) := by decide +kernel
theorem dX10_refusedNow_77 : decode cX10_refusedNow 77 = .ok (.goto 4, 3) := by decide +kernel
theorem dX10_refusedNow_80 : decode cX10_refusedNow 80 = .ok (.iconst 0, 1) := by decide +kernel
theorem dX10_refusedNow_81 : decode cX10_refusedNow 81 = .ok (.iadd, 1) := by decide +kernel
theorem dX10_refusedNow_82 : decode cX10_refusedNow 82 = .ok (.ireturn, 1) := by decide +kernel
theorem dX10_size_0 : decode cX10_size 0 = .ok (.aload_n 0, 1) := by decide +kernel
theorem dX10_size_1 : decode cX10_size 1 = .ok (.iconst 0, 1) := by decide +kernel
theorem dX10_size_2 : decode cX10_size 2 = .ok (.putfield 1, 3) := by decide +kernel
theorem dX10_size_5 : decode cX10_size 5 = .ok (.aload_n 0, 1) := by decide +kernel
theorem dX10_size_6 : decode cX10_size 6 = .ok (.invokevirtual 84, 3) := by decide +kernel
theorem dX10_size_9 : decode cX10_size 9 = .ok (.ireturn, 1) := by decide +kernel
theorem dX10_wordAt_0 : decode cX10_wordAt 0 = .ok (.aload_n 0, 1) := by decide +kernel
theorem dX10_wordAt_1 : decode cX10_wordAt 1 = .ok (.iconst 0, 1) := by decide +kernel
theorem dX10_wordAt_2 : decode cX10_wordAt 2 = .ok (.putfield 1, 3) := by decide +kernel
theorem dX10_wordAt_5 : decode cX10_wordAt 5 = .ok (.aload_n 0, 1) := by decide +kernel
theorem dX10_wordAt_6 : decode cX10_wordAt 6 = .ok (.iload_n 1, 1) := by decide +kernel
theorem dX10_wordAt_7 : decode cX10_wordAt 7 = .ok (.iconst 0, 1) := by decide +kernel
theorem dX10_wordAt_8 : decode cX10_wordAt 8 = .ok (.aload_n 0, 1) := by decide +kernel
theorem dX10_wordAt_9 : decode cX10_wordAt 9 = .ok (.invokevirtual 84, 3) := by decide +kernel
theorem dX10_wordAt_12 : decode cX10_wordAt 12 = .ok (.iconst 1, 1) := by decide +kernel
theorem dX10_wordAt_13 : decode cX10_wordAt 13 = .ok (.isub, 1) := by decide +kernel
theorem dX10_wordAt_14 : decode cX10_wordAt 14 = .ok (.invokestatic 66, 3) := by decide +kernel
theorem dX10_wordAt_17 : decode cX10_wordAt 17 = .ok (.iconst 1, 1) := by decide +kernel
theorem dX10_wordAt_18 : decode cX10_wordAt 18 = .ok (.invokevirtual 74, 3) := by decide +kernel
theorem dX10_wordAt_21 : decode cX10_wordAt 21 = .ok (.ifCond .eq 7, 3) := by decide +kernel
theorem dX10_wordAt_24 : decode cX10_wordAt 24 = .ok (.iconst 0, 1) := by decide +kernel
theorem dX10_wordAt_25 : decode cX10_wordAt 25 = .ok (.goto 8, 3) := by decide +kernel
theorem dX10_wordAt_28 : decode cX10_wordAt 28 = .ok (.aload_n 0, 1) := by decide +kernel
theorem dX10_wordAt_29 : decode cX10_wordAt 29 = .ok (.iload_n 1, 1) := by decide +kernel
theorem dX10_wordAt_30 : decode cX10_wordAt 30 = .ok (.invokevirtual 88, 3) := by decide +kernel
theorem dX10_wordAt_33 : decode cX10_wordAt 33 = .ok (.ireturn, 1) := by decide +kernel
theorem dX10_indexOf_0 : decode cX10_indexOf 0 = .ok (.aload_n 0, 1) := by decide +kernel
theorem dX10_indexOf_1 : decode cX10_indexOf 1 = .ok (.iconst 0, 1) := by decide +kernel
theorem dX10_indexOf_2 : decode cX10_indexOf 2 = .ok (.putfield 1, 3) := by decide +kernel
theorem dX10_indexOf_5 : decode cX10_indexOf 5 = .ok (.aload_n 0, 1) := by decide +kernel
theorem dX10_indexOf_6 : decode cX10_indexOf 6 = .ok (.iload_n 1, 1) := by decide +kernel
theorem dX10_indexOf_7 : decode cX10_indexOf 7 = .ok (.invokevirtual 125, 3) := by decide +kernel
theorem dX10_indexOf_10 : decode cX10_indexOf 10 = .ok (.ifCond .eq 5, 3) := by decide +kernel
theorem dX10_indexOf_13 : decode cX10_indexOf 13 = .ok (.iconst 0, 1) := by decide +kernel
theorem dX10_indexOf_14 : decode cX10_indexOf 14 = .ok (.ireturn, 1) := by decide +kernel
theorem dX10_indexOf_15 : decode cX10_indexOf 15 = .ok (.iconst 0, 1) := by decide +kernel
theorem dX10_indexOf_16 : decode cX10_indexOf 16 = .ok (.istore_n 2, 1) := by decide +kernel
theorem dX10_indexOf_17 : decode cX10_indexOf 17 = .ok (.iload_n 2, 1) := by decide +kernel
theorem dX10_indexOf_18 : decode cX10_indexOf 18 = .ok (.aload_n 0, 1) := by decide +kernel
theorem dX10_indexOf_19 : decode cX10_indexOf 19 = .ok (.invokevirtual 84, 3) := by decide +kernel
theorem dX10_indexOf_22 : decode cX10_indexOf 22 = .ok (.if_icmp .ge 20, 3) := by decide +kernel
theorem dX10_indexOf_25 : decode cX10_indexOf 25 = .ok (.aload_n 0, 1) := by decide +kernel
theorem dX10_indexOf_26 : decode cX10_indexOf 26 = .ok (.iload_n 2, 1) := by decide +kernel
theorem dX10_indexOf_27 : decode cX10_indexOf 27 = .ok (.invokevirtual 88, 3) := by decide +kernel
theorem dX10_indexOf_30 : decode cX10_indexOf 30 = .ok (.iload_n 1, 1) := by decide +kernel
theorem dX10_indexOf_31 : decode cX10_indexOf 31 = .ok (.if_icmp .ne 5, 3) := by decide +kernel
theorem dX10_indexOf_34 : decode cX10_indexOf 34 = .ok (.iload_n 2, 1) := by decide +kernel
theorem dX10_indexOf_35 : decode cX10_indexOf 35 = .ok (.ireturn, 1) := by decide +kernel
theorem dX10_indexOf_36 : decode cX10_indexOf 36 = .ok (.iinc 2 1, 3) := by decide +kernel
theorem dX10_indexOf_39 : decode cX10_indexOf 39 = .ok (.goto (-22), 3) := by decide +kernel
theorem dX10_indexOf_42 : decode cX10_indexOf 42 = .ok (.iconst (-1), 1) := by decide +kernel
theorem dX10_indexOf_43 : decode cX10_indexOf 43 = .ok (.ireturn, 1) := by decide +kernel
theorem dX10_lastIndexOf_0 : decode cX10_lastIndexOf 0 = .ok (.aload_n 0, 1) := by decide +kernel
theorem dX10_lastIndexOf_1 : decode cX10_lastIndexOf 1 = .ok (.iconst 0, 1) := by decide +kernel
theorem dX10_lastIndexOf_2 : decode cX10_lastIndexOf 2 = .ok (.putfield 1, 3) := by decide +kernel
theorem dX10_lastIndexOf_5 : decode cX10_lastIndexOf 5 = .ok (.aload_n 0, 1) := by decide +kernel
theorem dX10_lastIndexOf_6 : decode cX10_lastIndexOf 6 = .ok (.iload_n 1, 1) := by decide +kernel
theorem dX10_lastIndexOf_7 : decode cX10_lastIndexOf 7 = .ok (.invokevirtual 125, 3) := by decide +kernel
theorem dX10_lastIndexOf_10 : decode cX10_lastIndexOf 10 = .ok (.ifCond .eq 5, 3) := by decide +kernel
theorem dX10_lastIndexOf_13 : decode cX10_lastIndexOf 13 = .ok (.iconst 0, 1) := by decide +kernel
theorem dX10_lastIndexOf_14 : decode cX10_lastIndexOf 14 = .ok (.ireturn, 1) := by decide +kernel
theorem dX10_lastIndexOf_15 : decode cX10_lastIndexOf 15 = .ok (.aload_n 0, 1) := by decide +kernel
theorem dX10_lastIndexOf_16 : decode cX10_lastIndexOf 16 = .ok (.invokevirtual 84, 3) := by decide +kernel
theorem dX10_lastIndexOf_19 : decode cX10_lastIndexOf 19 = .ok (.iconst 1, 1) := by decide +kernel
theorem dX10_lastIndexOf_20 : decode cX10_lastIndexOf 20 = .ok (.isub, 1) := by decide +kernel
theorem dX10_lastIndexOf_21 : decode cX10_lastIndexOf 21 = .ok (.istore_n 2, 1) := by decide +kernel
theorem dX10_lastIndexOf_22 : decode cX10_lastIndexOf 22 = .ok (.iload_n 2, 1) := by decide +kernel
theorem dX10_lastIndexOf_23 : decode cX10_lastIndexOf 23 = .ok (.ifCond .lt 20, 3) := by decide +kernel
theorem dX10_lastIndexOf_26 : decode cX10_lastIndexOf 26 = .ok (.aload_n 0, 1) := by decide +kernel
theorem dX10_lastIndexOf_27 : decode cX10_lastIndexOf 27 = .ok (.iload_n 2, 1) := by decide +kernel
theorem dX10_lastIndexOf_28 : decode cX10_lastIndexOf 28 = .ok (.invokevirtual 88, 3) := by decide +kernel
theorem dX10_lastIndexOf_31 : decode cX10_lastIndexOf 31 = .ok (.iload_n 1, 1) := by decide +kernel
theorem dX10_lastIndexOf_32 : decode cX10_lastIndexOf 32 = .ok (.if_icmp .ne 5, 3) := by decide +kernel
theorem dX10_lastIndexOf_35 : decode cX10_lastIndexOf 35 = .ok (.iload_n 2, 1) := by decide +kernel
theorem dX10_lastIndexOf_36 : decode cX10_lastIndexOf 36 = .ok (.ireturn, 1) := by decide +kernel
theorem dX10_lastIndexOf_37 : decode cX10_lastIndexOf 37 = .ok (.iinc 2 (-1), 3) := by decide +kernel
theorem dX10_lastIndexOf_40 : decode cX10_lastIndexOf 40 = .ok (.goto (-18), 3) := by decide +kernel
theorem dX10_lastIndexOf_43 : decode cX10_lastIndexOf 43 = .ok (.iconst (-1), 1) := by decide +kernel
theorem dX10_lastIndexOf_44 : decode cX10_lastIndexOf 44 = .ok (.ireturn, 1) := by decide +kernel
theorem dX10_count_0 : decode cX10_count 0 = .ok (.aload_n 0, 1) := by decide +kernel
theorem dX10_count_1 : decode cX10_count 1 = .ok (.iconst 0, 1) := by decide +kernel
theorem dX10_count_2 : decode cX10_count 2 = .ok (.putfield 1, 3) := by decide +kernel
theorem dX10_count_5 : decode cX10_count 5 = .ok (.aload_n 0, 1) := by decide +kernel
theorem dX10_count_6 : decode cX10_count 6 = .ok (.iload_n 1, 1) := by decide +kernel
theorem dX10_count_7 : decode cX10_count 7 = .ok (.invokevirtual 125, 3) := by decide +kernel
theorem dX10_count_10 : decode cX10_count 10 = .ok (.ifCond .eq 5, 3) := by decide +kernel
theorem dX10_count_13 : decode cX10_count 13 = .ok (.iconst 0, 1) := by decide +kernel
theorem dX10_count_14 : decode cX10_count 14 = .ok (.ireturn, 1) := by decide +kernel
theorem dX10_count_15 : decode cX10_count 15 = .ok (.iconst 0, 1) := by decide +kernel
theorem dX10_count_16 : decode cX10_count 16 = .ok (.istore_n 2, 1) := by decide +kernel
theorem dX10_count_17 : decode cX10_count 17 = .ok (.iconst 0, 1) := by decide +kernel
theorem dX10_count_18 : decode cX10_count 18 = .ok (.istore_n 3, 1) := by decide +kernel
theorem dX10_count_19 : decode cX10_count 19 = .ok (.iload_n 3, 1) := by decide +kernel
theorem dX10_count_20 : decode cX10_count 20 = .ok (.aload_n 0, 1) := by decide +kernel
theorem dX10_count_21 : decode cX10_count 21 = .ok (.invokevirtual 84, 3) := by decide +kernel
theorem dX10_count_24 : decode cX10_count 24 = .ok (.if_icmp .ge 26, 3) := by decide +kernel
theorem dX10_count_27 : decode cX10_count 27 = .ok (.iload_n 2, 1) := by decide +kernel
theorem dX10_count_28 : decode cX10_count 28 = .ok (.aload_n 0, 1) := by decide +kernel
theorem dX10_count_29 : decode cX10_count 29 = .ok (.iload_n 3, 1) := by decide +kernel
theorem dX10_count_30 : decode cX10_count 30 = .ok (.invokevirtual 88, 3) := by decide +kernel
theorem dX10_count_33 : decode cX10_count 33 = .ok (.iload_n 1, 1) := by decide +kernel
theorem dX10_count_34 : decode cX10_count 34 = .ok (.if_icmp .ne 7, 3) := by decide +kernel
theorem dX10_count_37 : decode cX10_count 37 = .ok (.iconst 1, 1) := by decide +kernel
theorem dX10_count_38 : decode cX10_count 38 = .ok (.goto 4, 3) := by decide +kernel
theorem dX10_count_41 : decode cX10_count 41 = .ok (.iconst 0, 1) := by decide +kernel
theorem dX10_count_42 : decode cX10_count 42 = .ok (.iadd, 1) := by decide +kernel
theorem dX10_count_43 : decode cX10_count 43 = .ok (.istore_n 2, 1) := by decide +kernel
theorem dX10_count_44 : decode cX10_count 44 = .ok (.iinc 3 1, 3) := by decide +kernel
theorem dX10_count_47 : decode cX10_count 47 = .ok (.goto (-28), 3) := by decide +kernel
theorem dX10_count_50 : decode cX10_count 50 = .ok (.iload_n 2, 1) := by decide +kernel
theorem dX10_count_51 : decode cX10_count 51 = .ok (.ireturn, 1) := by decide +kernel
theorem dX10_unlike_0 : decode cX10_unlike 0 = .ok (.aload_n 0, 1) := by decide +kernel
theorem dX10_unlike_1 : decode cX10_unlike 1 = .ok (.iconst 0, 1) := by decide +kernel
theorem dX10_unlike_2 : decode cX10_unlike 2 = .ok (.putfield 1, 3) := by decide +kernel
theorem dX10_unlike_5 : decode cX10_unlike 5 = .ok (.iconst 0, 1) := by decide +kernel
theorem dX10_unlike_6 : decode cX10_unlike 6 = .ok (.istore_n 1, 1) := by decide +kernel
theorem dX10_unlike_7 : decode cX10_unlike 7 = .ok (.iconst 0, 1) := by decide +kernel
theorem dX10_unlike_8 : decode cX10_unlike 8 = .ok (.istore_n 2, 1) := by decide +kernel
theorem dX10_unlike_9 : decode cX10_unlike 9 = .ok (.iload_n 2, 1) := by decide +kernel
theorem dX10_unlike_10 : decode cX10_unlike 10 = .ok (.aload_n 0, 1) := by decide +kernel
theorem dX10_unlike_11 : decode cX10_unlike 11 = .ok (.invokevirtual 84, 3) := by decide +kernel
theorem dX10_unlike_14 : decode cX10_unlike 14 = .ok (.if_icmp .ge 60, 3) := by decide +kernel
theorem dX10_unlike_17 : decode cX10_unlike 17 = .ok (.iconst 1, 1) := by decide +kernel
theorem dX10_unlike_18 : decode cX10_unlike 18 = .ok (.istore_n 3, 1) := by decide +kernel
theorem dX10_unlike_19 : decode cX10_unlike 19 = .ok (.iconst 0, 1) := by decide +kernel
theorem dX10_unlike_20 : decode cX10_unlike 20 = .ok (.istore 4, 2) := by decide +kernel
theorem dX10_unlike_22 : decode cX10_unlike 22 = .ok (.iload 4, 2) := by decide +kernel
theorem dX10_unlike_24 : decode cX10_unlike 24 = .ok (.iload_n 2, 1) := by decide +kernel
theorem dX10_unlike_25 : decode cX10_unlike 25 = .ok (.if_icmp .ge 31, 3) := by decide +kernel
theorem dX10_unlike_28 : decode cX10_unlike 28 = .ok (.iload_n 3, 1) := by decide +kernel
theorem dX10_unlike_29 : decode cX10_unlike 29 = .ok (.aload_n 0, 1) := by decide +kernel
theorem dX10_unlike_30 : decode cX10_unlike 30 = .ok (.iload 4, 2) := by decide +kernel
theorem dX10_unlike_32 : decode cX10_unlike 32 = .ok (.invokevirtual 88, 3) := by decide +kernel
theorem dX10_unlike_35 : decode cX10_unlike 35 = .ok (.aload_n 0, 1) := by decide +kernel
theorem dX10_unlike_36 : decode cX10_unlike 36 = .ok (.iload_n 2, 1) := by decide +kernel
theorem dX10_unlike_37 : decode cX10_unlike 37 = .ok (.invokevirtual 88, 3) := by decide +kernel
theorem dX10_unlike_40 : decode cX10_unlike 40 = .ok (.if_icmp .eq 7, 3) := by decide +kernel
theorem dX10_unlike_43 : decode cX10_unlike 43 = .ok (.iconst 1, 1) := by decide +kernel
theorem dX10_unlike_44 : decode cX10_unlike 44 = .ok (.goto 4, 3) := by decide +kernel
theorem dX10_unlike_47 : decode cX10_unlike 47 = .ok (.iconst 0, 1) := by decide +kernel
theorem dX10_unlike_48 : decode cX10_unlike 48 = .ok (.iand, 1) := by decide +kernel
theorem dX10_unlike_49 : decode cX10_unlike 49 = .ok (.istore_n 3, 1) := by decide +kernel
theorem dX10_unlike_50 : decode cX10_unlike 50 = .ok (.iinc 4 1, 3) := by decide +kernel
theorem dX10_unlike_53 : decode cX10_unlike 53 = .ok (.goto (-31), 3) := by decide +kernel
theorem dX10_unlike_56 : decode cX10_unlike 56 = .ok (.iload_n 1, 1) := by decide +kernel
theorem dX10_unlike_57 : decode cX10_unlike 57 = .ok (.iload_n 3, 1) := by decide +kernel
theorem dX10_unlike_58 : decode cX10_unlike 58 = .ok (.ifCond .eq 7, 3) := by decide +kernel
theorem dX10_unlike_61 : decode cX10_unlike 61 = .ok (.iconst 1, 1) := by decide +kernel
theorem dX10_unlike_62 : decode cX10_unlike 62 = .ok (.goto 4, 3) := by decide +kernel
theorem dX10_unlike_65 : decode cX10_unlike 65 = .ok (.iconst 0, 1) := by decide +kernel
theorem dX10_unlike_66 : decode cX10_unlike 66 = .ok (.iadd, 1) := by decide +kernel
theorem dX10_unlike_67 : decode cX10_unlike 67 = .ok (.istore_n 1, 1) := by decide +kernel
theorem dX10_unlike_68 : decode cX10_unlike 68 = .ok (.iinc 2 1, 3) := by decide +kernel
theorem dX10_unlike_71 : decode cX10_unlike 71 = .ok (.goto (-62), 3) := by decide +kernel
theorem dX10_unlike_74 : decode cX10_unlike 74 = .ok (.iload_n 1, 1) := by decide +kernel
theorem dX10_unlike_75 : decode cX10_unlike 75 = .ok (.ireturn, 1) := by decide +kernel
theorem dX10_clear_0 : decode cX10_clear 0 = .ok (.aload_n 0, 1) := by decide +kernel
theorem dX10_clear_1 : decode cX10_clear 1 = .ok (.iconst 0, 1) := by decide +kernel
theorem dX10_clear_2 : decode cX10_clear 2 = .ok (.putfield 1, 3) := by decide +kernel
theorem dX10_clear_5 : decode cX10_clear 5 = .ok (.aload_n 0, 1) := by decide +kernel
theorem dX10_clear_6 : decode cX10_clear 6 = .ok (.invokevirtual 84, 3) := by decide +kernel
theorem dX10_clear_9 : decode cX10_clear 9 = .ok (.istore_n 1, 1) := by decide +kernel
theorem dX10_clear_10 : decode cX10_clear 10 = .ok (.aload_n 0, 1) := by decide +kernel
theorem dX10_clear_11 : decode cX10_clear 11 = .ok (.invokevirtual 189, 3) := by decide +kernel
theorem dX10_clear_14 : decode cX10_clear 14 = .ok (.iload_n 1, 1) := by decide +kernel
theorem dX10_clear_15 : decode cX10_clear 15 = .ok (.ireturn, 1) := by decide +kernel
theorem dX10_writes_0 : decode cX10_writes 0 = .ok (.aload_n 0, 1) := by decide +kernel
theorem dX10_writes_1 : decode cX10_writes 1 = .ok (.getfield 59, 3) := by decide +kernel
theorem dX10_writes_4 : decode cX10_writes 4 = .ok (.aload_n 0, 1) := by decide +kernel
theorem dX10_writes_5 : decode cX10_writes 5 = .ok (.getfield 223, 3) := by decide +kernel
theorem dX10_writes_8 : decode cX10_writes 8 = .ok (.iload_n 1, 1) := by decide +kernel
theorem dX10_writes_9 : decode cX10_writes 9 = .ok (.iastore, 1) := by decide +kernel
theorem dX10_writes_10 : decode cX10_writes 10 = .ok (.aload_n 0, 1) := by decide +kernel
theorem dX10_writes_11 : decode cX10_writes 11 = .ok (.dup, 1) := by decide +kernel
theorem dX10_writes_12 : decode cX10_writes 12 = .ok (.getfield 223, 3) := by decide +kernel
theorem dX10_writes_15 : decode cX10_writes 15 = .ok (.iconst 1, 1) := by decide +kernel
theorem dX10_writes_16 : decode cX10_writes 16 = .ok (.iadd, 1) := by decide +kernel
theorem dX10_writes_17 : decode cX10_writes 17 = .ok (.putfield 223, 3) := by decide +kernel
theorem dX10_writes_20 : decode cX10_writes 20 = .ok (.return_, 1) := by decide +kernel
theorem dX10_writesWord_0 : decode cX10_writesWord 0 = .ok (.iconst 1, 1) := by decide +kernel
theorem dX10_writesWord_1 : decode cX10_writesWord 1 = .ok (.istore_n 2, 1) := by decide +kernel
theorem dX10_writesWord_2 : decode cX10_writesWord 2 = .ok (.iload_n 1, 1) := by decide +kernel
theorem dX10_writesWord_3 : decode cX10_writesWord 3 = .ok (.iload_n 2, 1) := by decide +kernel
theorem dX10_writesWord_4 : decode cX10_writesWord 4 = .ok (.idiv, 1) := by decide +kernel
theorem dX10_writesWord_5 : decode cX10_writesWord 5 = .ok (.bipush 27, 2) := by decide +kernel
theorem dX10_writesWord_7 : decode cX10_writesWord 7 = .ok (.if_icmp .lt 11, 3) := by decide +kernel
theorem dX10_writesWord_10 : decode cX10_writesWord 10 = .ok (.iload_n 2, 1) := by decide +kernel
theorem dX10_writesWord_11 : decode cX10_writesWord 11 = .ok (.bipush 27, 2) := by decide +kernel
theorem dX10_writesWord_13 : decode cX10_writesWord 13 = .ok (.imul, 1) := by decide +kernel
theorem dX10_writesWord_14 : decode cX10_writesWord 14 = .ok (.istore_n 2, 1) := by decide +kernel
theorem dX10_writesWord_15 : decode cX10_writesWord 15 = .ok (.goto (-13), 3) := by decide +kernel
theorem dX10_writesWord_18 : decode cX10_writesWord 18 = .ok (.iload_n 2, 1) := by decide +kernel
theorem dX10_writesWord_19 : decode cX10_writesWord 19 = .ok (.istore_n 3, 1) := by decide +kernel
theorem dX10_writesWord_20 : decode cX10_writesWord 20 = .ok (.iload_n 3, 1) := by decide +kernel
theorem dX10_writesWord_21 : decode cX10_writesWord 21 = .ok (.ifCond .le 26, 3) := by decide +kernel
theorem dX10_writesWord_24 : decode cX10_writesWord 24 = .ok (.aload_n 0, 1) := by decide +kernel
theorem dX10_writesWord_25 : decode cX10_writesWord 25 = .ok (.bipush 97, 2) := by decide +kernel
theorem dX10_writesWord_27 : decode cX10_writesWord 27 = .ok (.iload_n 1, 1) := by decide +kernel
theorem dX10_writesWord_28 : decode cX10_writesWord 28 = .ok (.iload_n 3, 1) := by decide +kernel
theorem dX10_writesWord_29 : decode cX10_writesWord 29 = .ok (.idiv, 1) := by decide +kernel
theorem dX10_writesWord_30 : decode cX10_writesWord 30 = .ok (.bipush 27, 2) := by decide +kernel
theorem dX10_writesWord_32 : decode cX10_writesWord 32 = .ok (.irem, 1) := by decide +kernel
theorem dX10_writesWord_33 : decode cX10_writesWord 33 = .ok (.iadd, 1) := by decide +kernel
theorem dX10_writesWord_34 : decode cX10_writesWord 34 = .ok (.iconst 1, 1) := by decide +kernel
theorem dX10_writesWord_35 : decode cX10_writesWord 35 = .ok (.isub, 1) := by decide +kernel
theorem dX10_writesWord_36 : decode cX10_writesWord 36 = .ok (.invokevirtual 226, 3) := by decide +kernel
theorem dX10_writesWord_39 : decode cX10_writesWord 39 = .ok (.iload_n 3, 1) := by decide +kernel
theorem dX10_writesWord_40 : decode cX10_writesWord 40 = .ok (.bipush 27, 2) := by decide +kernel
theorem dX10_writesWord_42 : decode cX10_writesWord 42 = .ok (.idiv, 1) := by decide +kernel
theorem dX10_writesWord_43 : decode cX10_writesWord 43 = .ok (.istore_n 3, 1) := by decide +kernel
theorem dX10_writesWord_44 : decode cX10_writesWord 44 = .ok (.goto (-24), 3) := by decide +kernel
theorem dX10_writesWord_47 : decode cX10_writesWord 47 = .ok (.return_, 1) := by decide +kernel
theorem dX10_write_0 : decode cX10_write 0 = .ok (.aload_n 0, 1) := by decide +kernel
theorem dX10_write_1 : decode cX10_write 1 = .ok (.iconst 0, 1) := by decide +kernel
theorem dX10_write_2 : decode cX10_write 2 = .ok (.putfield 1, 3) := by decide +kernel
theorem dX10_write_5 : decode cX10_write 5 = .ok (.aload_n 0, 1) := by decide +kernel
theorem dX10_write_6 : decode cX10_write 6 = .ok (.iconst 0, 1) := by decide +kernel
theorem dX10_write_7 : decode cX10_write 7 = .ok (.putfield 223, 3) := by decide +kernel
theorem dX10_write_10 : decode cX10_write 10 = .ok (.iconst 0, 1) := by decide +kernel
theorem dX10_write_11 : decode cX10_write 11 = .ok (.istore_n 1, 1) := by decide +kernel
theorem dX10_write_12 : decode cX10_write 12 = .ok (.iload_n 1, 1) := by decide +kernel
theorem dX10_write_13 : decode cX10_write 13 = .ok (.aload_n 0, 1) := by decide +kernel
theorem dX10_write_14 : decode cX10_write 14 = .ok (.getfield 81, 3) := by decide +kernel
theorem dX10_write_17 : decode cX10_write 17 = .ok (.if_icmp .ge 25, 3) := by decide +kernel
theorem dX10_write_20 : decode cX10_write 20 = .ok (.aload_n 0, 1) := by decide +kernel
theorem dX10_write_21 : decode cX10_write 21 = .ok (.aload_n 0, 1) := by decide +kernel
theorem dX10_write_22 : decode cX10_write 22 = .ok (.getfield 13, 3) := by decide +kernel
theorem dX10_write_25 : decode cX10_write 25 = .ok (.iload_n 1, 1) := by decide +kernel
theorem dX10_write_26 : decode cX10_write 26 = .ok (.iaload, 1) := by decide +kernel
theorem dX10_write_27 : decode cX10_write 27 = .ok (.invokevirtual 229, 3) := by decide +kernel
theorem dX10_write_30 : decode cX10_write 30 = .ok (.aload_n 0, 1) := by decide +kernel
theorem dX10_write_31 : decode cX10_write 31 = .ok (.bipush 32, 2) := by decide +kernel
theorem dX10_write_33 : decode cX10_write 33 = .ok (.invokevirtual 226, 3) := by decide +kernel
theorem dX10_write_36 : decode cX10_write 36 = .ok (.iinc 1 1, 3) := by decide +kernel
theorem dX10_write_39 : decode cX10_write 39 = .ok (.goto (-27), 3) := by decide +kernel
theorem dX10_write_42 : decode cX10_write 42 = .ok (.aload_n 0, 1) := by decide +kernel
theorem dX10_write_43 : decode cX10_write 43 = .ok (.bipush 124, 2) := by decide +kernel
theorem dX10_write_45 : decode cX10_write 45 = .ok (.invokevirtual 226, 3) := by decide +kernel
theorem dX10_write_48 : decode cX10_write 48 = .ok (.aload_n 0, 1) := by decide +kernel
theorem dX10_write_49 : decode cX10_write 49 = .ok (.getfield 94, 3) := by decide +kernel
theorem dX10_write_52 : decode cX10_write 52 = .ok (.iconst 1, 1) := by decide +kernel
theorem dX10_write_53 : decode cX10_write 53 = .ok (.isub, 1) := by decide +kernel
theorem dX10_write_54 : decode cX10_write 54 = .ok (.istore_n 1, 1) := by decide +kernel
theorem dX10_write_55 : decode cX10_write 55 = .ok (.iload_n 1, 1) := by decide +kernel
theorem dX10_write_56 : decode cX10_write 56 = .ok (.ifCond .lt 25, 3) := by decide +kernel
theorem dX10_write_59 : decode cX10_write 59 = .ok (.aload_n 0, 1) := by decide +kernel
theorem dX10_write_60 : decode cX10_write 60 = .ok (.bipush 32, 2) := by decide +kernel
theorem dX10_write_62 : decode cX10_write 62 = .ok (.invokevirtual 226, 3) := by decide +kernel
theorem dX10_write_65 : decode cX10_write 65 = .ok (.aload_n 0, 1) := by decide +kernel
theorem dX10_write_66 : decode cX10_write 66 = .ok (.aload_n 0, 1) := by decide +kernel
theorem dX10_write_67 : decode cX10_write 67 = .ok (.getfield 17, 3) := by decide +kernel
theorem dX10_write_70 : decode cX10_write 70 = .ok (.iload_n 1, 1) := by decide +kernel
theorem dX10_write_71 : decode cX10_write 71 = .ok (.iaload, 1) := by decide +kernel
theorem dX10_write_72 : decode cX10_write 72 = .ok (.invokevirtual 229, 3) := by decide +kernel
theorem dX10_write_75 : decode cX10_write 75 = .ok (.iinc 1 (-1), 3) := by decide +kernel
theorem dX10_write_78 : decode cX10_write 78 = .ok (.goto (-23), 3) := by decide +kernel
theorem dX10_write_81 : decode cX10_write 81 = .ok (.aload_n 0, 1) := by decide +kernel
theorem dX10_write_82 : decode cX10_write 82 = .ok (.getfield 223, 3) := by decide +kernel
theorem dX10_write_85 : decode cX10_write 85 = .ok (.ireturn, 1) := by decide +kernel
theorem dX10_writtenAt_0 : decode cX10_writtenAt 0 = .ok (.aload_n 0, 1) := by decide +kernel
theorem dX10_writtenAt_1 : decode cX10_writtenAt 1 = .ok (.iconst 0, 1) := by decide +kernel
theorem dX10_writtenAt_2 : decode cX10_writtenAt 2 = .ok (.putfield 1, 3) := by decide +kernel
theorem dX10_writtenAt_5 : decode cX10_writtenAt 5 = .ok (.aload_n 0, 1) := by decide +kernel
theorem dX10_writtenAt_6 : decode cX10_writtenAt 6 = .ok (.iload_n 1, 1) := by decide +kernel
theorem dX10_writtenAt_7 : decode cX10_writtenAt 7 = .ok (.iconst 0, 1) := by decide +kernel
theorem dX10_writtenAt_8 : decode cX10_writtenAt 8 = .ok (.aload_n 0, 1) := by decide +kernel
theorem dX10_writtenAt_9 : decode cX10_writtenAt 9 = .ok (.getfield 223, 3) := by decide +kernel
theorem dX10_writtenAt_12 : decode cX10_writtenAt 12 = .ok (.iconst 1, 1) := by decide +kernel
theorem dX10_writtenAt_13 : decode cX10_writtenAt 13 = .ok (.isub, 1) := by decide +kernel
theorem dX10_writtenAt_14 : decode cX10_writtenAt 14 = .ok (.invokestatic 66, 3) := by decide +kernel
theorem dX10_writtenAt_17 : decode cX10_writtenAt 17 = .ok (.iconst 1, 1) := by decide +kernel
theorem dX10_writtenAt_18 : decode cX10_writtenAt 18 = .ok (.invokevirtual 74, 3) := by decide +kernel
theorem dX10_writtenAt_21 : decode cX10_writtenAt 21 = .ok (.ifCond .eq 7, 3) := by decide +kernel
theorem dX10_writtenAt_24 : decode cX10_writtenAt 24 = .ok (.iconst 0, 1) := by decide +kernel
theorem dX10_writtenAt_25 : decode cX10_writtenAt 25 = .ok (.goto 9, 3) := by decide +kernel
theorem dX10_writtenAt_28 : decode cX10_writtenAt 28 = .ok (.aload_n 0, 1) := by decide +kernel
theorem dX10_writtenAt_29 : decode cX10_writtenAt 29 = .ok (.getfield 59, 3) := by decide +kernel
theorem dX10_writtenAt_32 : decode cX10_writtenAt 32 = .ok (.iload_n 1, 1) := by decide +kernel
theorem dX10_writtenAt_33 : decode cX10_writtenAt 33 = .ok (.iaload, 1) := by decide +kernel
theorem dX10_writtenAt_34 : decode cX10_writtenAt 34 = .ok (.ireturn, 1) := by decide +kernel
