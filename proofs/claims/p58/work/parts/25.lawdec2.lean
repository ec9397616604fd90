theorem dL_isFar_0 : decode cL_isFar 0 = .ok (.new 29, 3) := by decide +kernel
theorem dL_isFar_3 : decode cL_isFar 3 = .ok (.dup, 1) := by decide +kernel
theorem dL_isFar_4 : decode cL_isFar 4 = .ok (.invokespecial 179, 3) := by decide +kernel
theorem dL_isFar_7 : decode cL_isFar 7 = .ok (.astore_n 0, 1) := by decide +kernel
theorem dL_isFar_8 : decode cL_isFar 8 = .ok (.aload_n 0, 1) := by decide +kernel
theorem dL_isFar_9 : decode cL_isFar 9 = .ok (.iconst 1, 1) := by decide +kernel
theorem dL_isFar_10 : decode cL_isFar 10 = .ok (.ldc_w 261, 3) := by decide +kernel
theorem dL_isFar_13 : decode cL_isFar 13 = .ok (.invokevirtual 130, 3) := by decide +kernel
theorem dL_isFar_16 : decode cL_isFar 16 = .ok (.ifCond .ne 166, 3) := by decide +kernel
theorem dL_isFar_19 : decode cL_isFar 19 = .ok (.aload_n 0, 1) := by decide +kernel
theorem dL_isFar_20 : decode cL_isFar 20 = .ok (.iconst 2, 1) := by decide +kernel
theorem dL_isFar_21 : decode cL_isFar 21 = .ok (.bipush 7, 2) := by decide +kernel
theorem dL_isFar_23 : decode cL_isFar 23 = .ok (.invokevirtual 130, 3) := by decide +kernel
theorem dL_isFar_26 : decode cL_isFar 26 = .ok (.ifCond .ne 156, 3) := by decide +kernel
theorem dL_isFar_29 : decode cL_isFar 29 = .ok (.aload_n 0, 1) := by decide +kernel
theorem dL_isFar_30 : decode cL_isFar 30 = .ok (.iconst 0, 1) := by decide +kernel
theorem dL_isFar_31 : decode cL_isFar 31 = .ok (.bipush 6, 2) := by decide +kernel
theorem dL_isFar_33 : decode cL_isFar 33 = .ok (.iconst 0, 1) := by decide +kernel
theorem dL_isFar_34 : decode cL_isFar 34 = .ok (.iconst 1, 1) := by decide +kernel
theorem dL_isFar_35 : decode cL_isFar 35 = .ok (.iconst 2, 1) := by decide +kernel
theorem dL_isFar_36 : decode cL_isFar 36 = .ok (.iconst 0, 1) := by decide +kernel
theorem dL_isFar_37 : decode cL_isFar 37 = .ok (.invokevirtual 28, 3) := by decide +kernel
theorem dL_isFar_40 : decode cL_isFar 40 = .ok (.iconst 1, 1) := by decide +kernel
theorem dL_isFar_41 : decode cL_isFar 41 = .ok (.if_icmp .ne 141, 3) := by decide +kernel
theorem dL_isFar_44 : decode cL_isFar 44 = .ok (.aload_n 0, 1) := by decide +kernel
theorem dL_isFar_45 : decode cL_isFar 45 = .ok (.iconst 1, 1) := by decide +kernel
theorem dL_isFar_46 : decode cL_isFar 46 = .ok (.iconst 5, 1) := by decide +kernel
theorem dL_isFar_47 : decode cL_isFar 47 = .ok (.iconst 0, 1) := by decide +kernel
theorem dL_isFar_48 : decode cL_isFar 48 = .ok (.iconst 1, 1) := by decide +kernel
theorem dL_isFar_49 : decode cL_isFar 49 = .ok (.iconst 0, 1) := by decide +kernel
theorem dL_isFar_50 : decode cL_isFar 50 = .ok (.bipush 16, 2) := by decide +kernel
theorem dL_isFar_52 : decode cL_isFar 52 = .ok (.invokevirtual 28, 3) := by decide +kernel
theorem dL_isFar_55 : decode cL_isFar 55 = .ok (.iconst 2, 1) := by decide +kernel
theorem dL_isFar_56 : decode cL_isFar 56 = .ok (.if_icmp .ne 126, 3) := by decide +kernel
theorem dL_isFar_59 : decode cL_isFar 59 = .ok (.aload_n 0, 1) := by decide +kernel
theorem dL_isFar_60 : decode cL_isFar 60 = .ok (.iconst 0, 1) := by decide +kernel
theorem dL_isFar_61 : decode cL_isFar 61 = .ok (.iconst 1, 1) := by decide +kernel
theorem dL_isFar_62 : decode cL_isFar 62 = .ok (.invokevirtual 94, 3) := by decide +kernel
theorem dL_isFar_65 : decode cL_isFar 65 = .ok (.bipush (-99), 2) := by decide +kernel
theorem dL_isFar_67 : decode cL_isFar 67 = .ok (.if_icmp .ne 115, 3) := by decide +kernel
theorem dL_isFar_70 : decode cL_isFar 70 = .ok (.aload_n 0, 1) := by decide +kernel
theorem dL_isFar_71 : decode cL_isFar 71 = .ok (.iconst 0, 1) := by decide +kernel
theorem dL_isFar_72 : decode cL_isFar 72 = .ok (.invokevirtual 100, 3) := by decide +kernel
theorem dL_isFar_75 : decode cL_isFar 75 = .ok (.ifCond .ne 107, 3) := by decide +kernel
theorem dL_isFar_78 : decode cL_isFar 78 = .ok (.aload_n 0, 1) := by decide +kernel
theorem dL_isFar_79 : decode cL_isFar 79 = .ok (.iconst 4, 1) := by decide +kernel
theorem dL_isFar_80 : decode cL_isFar 80 = .ok (.iconst 3, 1) := by decide +kernel
theorem dL_isFar_81 : decode cL_isFar 81 = .ok (.invokevirtual 133, 3) := by decide +kernel
theorem dL_isFar_84 : decode cL_isFar 84 = .ok (.ifCond .ne 98, 3) := by decide +kernel
theorem dL_isFar_87 : decode cL_isFar 87 = .ok (.aload_n 0, 1) := by decide +kernel
theorem dL_isFar_88 : decode cL_isFar 88 = .ok (.iconst 0, 1) := by decide +kernel
theorem dL_isFar_89 : decode cL_isFar 89 = .ok (.invokevirtual 100, 3) := by decide +kernel
theorem dL_isFar_92 : decode cL_isFar 92 = .ok (.iconst 3, 1) := by decide +kernel
theorem dL_isFar_93 : decode cL_isFar 93 = .ok (.if_icmp .ne 89, 3) := by decide +kernel
theorem dL_isFar_96 : decode cL_isFar 96 = .ok (.aload_n 0, 1) := by decide +kernel
theorem dL_isFar_97 : decode cL_isFar 97 = .ok (.iconst 0, 1) := by decide +kernel
theorem dL_isFar_98 : decode cL_isFar 98 = .ok (.invokevirtual 106, 3) := by decide +kernel
theorem dL_isFar_101 : decode cL_isFar 101 = .ok (.bipush 7, 2) := by decide +kernel
theorem dL_isFar_103 : decode cL_isFar 103 = .ok (.if_icmp .ne 79, 3) := by decide +kernel
theorem dL_isFar_106 : decode cL_isFar 106 = .ok (.aload_n 0, 1) := by decide +kernel
theorem dL_isFar_107 : decode cL_isFar 107 = .ok (.invokevirtual 180, 3) := by decide +kernel
theorem dL_isFar_110 : decode cL_isFar 110 = .ok (.iconst 2, 1) := by decide +kernel
theorem dL_isFar_111 : decode cL_isFar 111 = .ok (.if_icmp .ne 71, 3) := by decide +kernel
theorem dL_isFar_114 : decode cL_isFar 114 = .ok (.aload_n 0, 1) := by decide +kernel
theorem dL_isFar_115 : decode cL_isFar 115 = .ok (.iconst 0, 1) := by decide +kernel
theorem dL_isFar_116 : decode cL_isFar 116 = .ok (.invokevirtual 88, 3) := by decide +kernel
theorem dL_isFar_119 : decode cL_isFar 119 = .ok (.iconst 1, 1) := by decide +kernel
theorem dL_isFar_120 : decode cL_isFar 120 = .ok (.if_icmp .ne 62, 3) := by decide +kernel
theorem dL_isFar_123 : decode cL_isFar 123 = .ok (.aload_n 0, 1) := by decide +kernel
theorem dL_isFar_124 : decode cL_isFar 124 = .ok (.invokevirtual 146, 3) := by decide +kernel
theorem dL_isFar_127 : decode cL_isFar 127 = .ok (.ifCond .ne 55, 3) := by decide +kernel
theorem dL_isFar_130 : decode cL_isFar 130 = .ok (.aload_n 0, 1) := by decide +kernel
theorem dL_isFar_131 : decode cL_isFar 131 = .ok (.invokevirtual 187, 3) := by decide +kernel
theorem dL_isFar_134 : decode cL_isFar 134 = .ok (.ifCond .eq 48, 3) := by decide +kernel
theorem dL_isFar_137 : decode cL_isFar 137 = .ok (.aload_n 0, 1) := by decide +kernel
theorem dL_isFar_138 : decode cL_isFar 138 = .ok (.iconst 1, 1) := by decide +kernel
theorem dL_isFar_139 : decode cL_isFar 139 = .ok (.ldc 164, 2) := by decide +kernel
theorem dL_isFar_141 : decode cL_isFar 141 = .ok (.invokevirtual 130, 3) := by decide +kernel
theorem dL_isFar_144 : decode cL_isFar 144 = .ok (.ldc_w 261, 3) := by decide +kernel
theorem dL_isFar_147 : decode cL_isFar 147 = .ok (.if_icmp .ne 35, 3) := by decide +kernel
theorem dL_isFar_150 : decode cL_isFar 150 = .ok (.aload_n 0, 1) := by decide +kernel
theorem dL_isFar_151 : decode cL_isFar 151 = .ok (.iconst 0, 1) := by decide +kernel
theorem dL_isFar_152 : decode cL_isFar 152 = .ok (.iconst 1, 1) := by decide +kernel
theorem dL_isFar_153 : decode cL_isFar 153 = .ok (.invokevirtual 38, 3) := by decide +kernel
theorem dL_isFar_156 : decode cL_isFar 156 = .ok (.bipush (-99), 2) := by decide +kernel
theorem dL_isFar_158 : decode cL_isFar 158 = .ok (.if_icmp .ne 24, 3) := by decide +kernel
theorem dL_isFar_161 : decode cL_isFar 161 = .ok (.aload_n 0, 1) := by decide +kernel
theorem dL_isFar_162 : decode cL_isFar 162 = .ok (.iconst 1, 1) := by decide +kernel
theorem dL_isFar_163 : decode cL_isFar 163 = .ok (.invokevirtual 34, 3) := by decide +kernel
theorem dL_isFar_166 : decode cL_isFar 166 = .ok (.iconst 1, 1) := by decide +kernel
theorem dL_isFar_167 : decode cL_isFar 167 = .ok (.if_icmp .ne 15, 3) := by decide +kernel
theorem dL_isFar_170 : decode cL_isFar 170 = .ok (.aload_n 0, 1) := by decide +kernel
theorem dL_isFar_171 : decode cL_isFar 171 = .ok (.iconst 0, 1) := by decide +kernel
theorem dL_isFar_172 : decode cL_isFar 172 = .ok (.invokevirtual 100, 3) := by decide +kernel
theorem dL_isFar_175 : decode cL_isFar 175 = .ok (.ifCond .ne 7, 3) := by decide +kernel
theorem dL_isFar_178 : decode cL_isFar 178 = .ok (.iconst 1, 1) := by decide +kernel
theorem dL_isFar_179 : decode cL_isFar 179 = .ok (.goto 4, 3) := by decide +kernel
theorem dL_isFar_182 : decode cL_isFar 182 = .ok (.iconst 0, 1) := by decide +kernel
theorem dL_isFar_183 : decode cL_isFar 183 = .ok (.ireturn, 1) := by decide +kernel
theorem dL_cells_0 : decode cL_cells 0 = .ok (.new 29, 3) := by decide +kernel
theorem dL_cells_3 : decode cL_cells 3 = .ok (.dup, 1) := by decide +kernel
theorem dL_cells_4 : decode cL_cells 4 = .ok (.invokespecial 179, 3) := by decide +kernel
theorem dL_cells_7 : decode cL_cells 7 = .ok (.astore_n 0, 1) := by decide +kernel
theorem dL_cells_8 : decode cL_cells 8 = .ok (.aload_n 0, 1) := by decide +kernel
theorem dL_cells_9 : decode cL_cells 9 = .ok (.iconst 1, 1) := by decide +kernel
theorem dL_cells_10 : decode cL_cells 10 = .ok (.bipush (-3), 2) := by decide +kernel
theorem dL_cells_12 : decode cL_cells 12 = .ok (.invokevirtual 130, 3) := by decide +kernel
theorem dL_cells_15 : decode cL_cells 15 = .ok (.ifCond .ne 178, 3) := by decide +kernel
theorem dL_cells_18 : decode cL_cells 18 = .ok (.aload_n 0, 1) := by decide +kernel
theorem dL_cells_19 : decode cL_cells 19 = .ok (.iconst 2, 1) := by decide +kernel
theorem dL_cells_20 : decode cL_cells 20 = .ok (.bipush 40, 2) := by decide +kernel
theorem dL_cells_22 : decode cL_cells 22 = .ok (.invokevirtual 130, 3) := by decide +kernel
theorem dL_cells_25 : decode cL_cells 25 = .ok (.ifCond .ne 168, 3) := by decide +kernel
theorem dL_cells_28 : decode cL_cells 28 = .ok (.aload_n 0, 1) := by decide +kernel
theorem dL_cells_29 : decode cL_cells 29 = .ok (.bipush 9, 2) := by decide +kernel
theorem dL_cells_31 : decode cL_cells 31 = .ok (.bipush 8, 2) := by decide +kernel
theorem dL_cells_33 : decode cL_cells 33 = .ok (.invokevirtual 133, 3) := by decide +kernel
theorem dL_cells_36 : decode cL_cells 36 = .ok (.ifCond .ne 157, 3) := by decide +kernel
theorem dL_cells_39 : decode cL_cells 39 = .ok (.aload_n 0, 1) := by decide +kernel
theorem dL_cells_40 : decode cL_cells 40 = .ok (.iconst 0, 1) := by decide +kernel
theorem dL_cells_41 : decode cL_cells 41 = .ok (.bipush 6, 2) := by decide +kernel
theorem dL_cells_43 : decode cL_cells 43 = .ok (.iconst 0, 1) := by decide +kernel
theorem dL_cells_44 : decode cL_cells 44 = .ok (.iconst 1, 1) := by decide +kernel
theorem dL_cells_45 : decode cL_cells 45 = .ok (.iconst 2, 1) := by decide +kernel
theorem dL_cells_46 : decode cL_cells 46 = .ok (.iconst 0, 1) := by decide +kernel
theorem dL_cells_47 : decode cL_cells 47 = .ok (.invokevirtual 28, 3) := by decide +kernel
theorem dL_cells_50 : decode cL_cells 50 = .ok (.iconst 1, 1) := by decide +kernel
theorem dL_cells_51 : decode cL_cells 51 = .ok (.if_icmp .ne 142, 3) := by decide +kernel
theorem dL_cells_54 : decode cL_cells 54 = .ok (.aload_n 0, 1) := by decide +kernel
theorem dL_cells_55 : decode cL_cells 55 = .ok (.iconst 1, 1) := by decide +kernel
theorem dL_cells_56 : decode cL_cells 56 = .ok (.iconst 5, 1) := by decide +kernel
theorem dL_cells_57 : decode cL_cells 57 = .ok (.iconst 3, 1) := by decide +kernel
theorem dL_cells_58 : decode cL_cells 58 = .ok (.iconst 1, 1) := by decide +kernel
theorem dL_cells_59 : decode cL_cells 59 = .ok (.iconst 0, 1) := by decide +kernel
theorem dL_cells_60 : decode cL_cells 60 = .ok (.iconst 1, 1) := by decide +kernel
theorem dL_cells_61 : decode cL_cells 61 = .ok (.invokevirtual 28, 3) := by decide +kernel
theorem dL_cells_64 : decode cL_cells 64 = .ok (.iconst 2, 1) := by decide +kernel
theorem dL_cells_65 : decode cL_cells 65 = .ok (.if_icmp .ne 128, 3) := by decide +kernel
theorem dL_cells_68 : decode cL_cells 68 = .ok (.aload_n 0, 1) := by decide +kernel
theorem dL_cells_69 : decode cL_cells 69 = .ok (.iconst 2, 1) := by decide +kernel
theorem dL_cells_70 : decode cL_cells 70 = .ok (.iconst 5, 1) := by decide +kernel
theorem dL_cells_71 : decode cL_cells 71 = .ok (.iconst 4, 1) := by decide +kernel
theorem dL_cells_72 : decode cL_cells 72 = .ok (.iconst 1, 1) := by decide +kernel
theorem dL_cells_73 : decode cL_cells 73 = .ok (.iconst 0, 1) := by decide +kernel
theorem dL_cells_74 : decode cL_cells 74 = .ok (.bipush 12, 2) := by decide +kernel
theorem dL_cells_76 : decode cL_cells 76 = .ok (.invokevirtual 28, 3) := by decide +kernel
theorem dL_cells_79 : decode cL_cells 79 = .ok (.iconst 3, 1) := by decide +kernel
theorem dL_cells_80 : decode cL_cells 80 = .ok (.if_icmp .ne 113, 3) := by decide +kernel
theorem dL_cells_83 : decode cL_cells 83 = .ok (.aload_n 0, 1) := by decide +kernel
theorem dL_cells_84 : decode cL_cells 84 = .ok (.iconst 3, 1) := by decide +kernel
theorem dL_cells_85 : decode cL_cells 85 = .ok (.iconst 5, 1) := by decide +kernel
theorem dL_cells_86 : decode cL_cells 86 = .ok (.iconst 1, 1) := by decide +kernel
theorem dL_cells_87 : decode cL_cells 87 = .ok (.iconst 1, 1) := by decide +kernel
theorem dL_cells_88 : decode cL_cells 88 = .ok (.iconst 0, 1) := by decide +kernel
theorem dL_cells_89 : decode cL_cells 89 = .ok (.iconst (-1), 1) := by decide +kernel
theorem dL_cells_90 : decode cL_cells 90 = .ok (.invokevirtual 28, 3) := by decide +kernel
theorem dL_cells_93 : decode cL_cells 93 = .ok (.iconst 4, 1) := by decide +kernel
theorem dL_cells_94 : decode cL_cells 94 = .ok (.if_icmp .ne 99, 3) := by decide +kernel
theorem dL_cells_97 : decode cL_cells 97 = .ok (.aload_n 0, 1) := by decide +kernel
theorem dL_cells_98 : decode cL_cells 98 = .ok (.iconst 4, 1) := by decide +kernel
theorem dL_cells_99 : decode cL_cells 99 = .ok (.bipush 6, 2) := by decide +kernel
theorem dL_cells_101 : decode cL_cells 101 = .ok (.iconst 0, 1) := by decide +kernel
theorem dL_cells_102 : decode cL_cells 102 = .ok (.iconst 1, 1) := by decide +kernel
theorem dL_cells_103 : decode cL_cells 103 = .ok (.iconst 4, 1) := by decide +kernel
theorem dL_cells_104 : decode cL_cells 104 = .ok (.iconst 1, 1) := by decide +kernel
theorem dL_cells_105 : decode cL_cells 105 = .ok (.invokevirtual 28, 3) := by decide +kernel
theorem dL_cells_108 : decode cL_cells 108 = .ok (.iconst 5, 1) := by decide +kernel
theorem dL_cells_109 : decode cL_cells 109 = .ok (.if_icmp .ne 84, 3) := by decide +kernel
theorem dL_cells_112 : decode cL_cells 112 = .ok (.aload_n 0, 1) := by decide +kernel
theorem dL_cells_113 : decode cL_cells 113 = .ok (.iconst 0, 1) := by decide +kernel
theorem dL_cells_114 : decode cL_cells 114 = .ok (.iconst 1, 1) := by decide +kernel
theorem dL_cells_115 : decode cL_cells 115 = .ok (.invokevirtual 94, 3) := by decide +kernel
theorem dL_cells_118 : decode cL_cells 118 = .ok (.bipush (-99), 2) := by decide +kernel
theorem dL_cells_120 : decode cL_cells 120 = .ok (.if_icmp .ne 73, 3) := by decide +kernel
theorem dL_cells_123 : decode cL_cells 123 = .ok (.aload_n 0, 1) := by decide +kernel
theorem dL_cells_124 : decode cL_cells 124 = .ok (.iconst 0, 1) := by decide +kernel
theorem dL_cells_125 : decode cL_cells 125 = .ok (.iconst 2, 1) := by decide +kernel
theorem dL_cells_126 : decode cL_cells 126 = .ok (.invokevirtual 94, 3) := by decide +kernel
theorem dL_cells_129 : decode cL_cells 129 = .ok (.iconst 1, 1) := by decide +kernel
theorem dL_cells_130 : decode cL_cells 130 = .ok (.if_icmp .ne 63, 3) := by decide +kernel
theorem dL_cells_133 : decode cL_cells 133 = .ok (.aload_n 0, 1) := by decide +kernel
theorem dL_cells_134 : decode cL_cells 134 = .ok (.iconst 0, 1) := by decide +kernel
theorem dL_cells_135 : decode cL_cells 135 = .ok (.iconst 3, 1) := by decide +kernel
theorem dL_cells_136 : decode cL_cells 136 = .ok (.invokevirtual 94, 3) := by decide +kernel
theorem dL_cells_139 : decode cL_cells 139 = .ok (.iconst (-1), 1) := by decide +kernel
theorem dL_cells_140 : decode cL_cells 140 = .ok (.if_icmp .ne 53, 3) := by decide +kernel
theorem dL_cells_143 : decode cL_cells 143 = .ok (.aload_n 0, 1) := by decide +kernel
theorem dL_cells_144 : decode cL_cells 144 = .ok (.iconst 3, 1) := by decide +kernel
theorem dL_cells_145 : decode cL_cells 145 = .ok (.iconst 4, 1) := by decide +kernel
theorem dL_cells_146 : decode cL_cells 146 = .ok (.invokevirtual 94, 3) := by decide +kernel
theorem dL_cells_149 : decode cL_cells 149 = .ok (.iconst 2, 1) := by decide +kernel
theorem dL_cells_150 : decode cL_cells 150 = .ok (.if_icmp .ne 43, 3) := by decide +kernel
theorem dL_cells_153 : decode cL_cells 153 = .ok (.aload_n 0, 1) := by decide +kernel
theorem dL_cells_154 : decode cL_cells 154 = .ok (.iconst 1, 1) := by decide +kernel
theorem dL_cells_155 : decode cL_cells 155 = .ok (.iconst 4, 1) := by decide +kernel
theorem dL_cells_156 : decode cL_cells 156 = .ok (.invokevirtual 94, 3) := by decide +kernel
theorem dL_cells_159 : decode cL_cells 159 = .ok (.ifCond .ne 34, 3) := by decide +kernel
theorem dL_cells_162 : decode cL_cells 162 = .ok (.aload_n 0, 1) := by decide +kernel
theorem dL_cells_163 : decode cL_cells 163 = .ok (.iconst 1, 1) := by decide +kernel
theorem dL_cells_164 : decode cL_cells 164 = .ok (.iconst 2, 1) := by decide +kernel
theorem dL_cells_165 : decode cL_cells 165 = .ok (.invokevirtual 94, 3) := by decide +kernel
theorem dL_cells_168 : decode cL_cells 168 = .ok (.bipush (-99), 2) := by decide +kernel
theorem dL_cells_170 : decode cL_cells 170 = .ok (.if_icmp .ne 23, 3) := by decide +kernel
theorem dL_cells_173 : decode cL_cells 173 = .ok (.aload_n 0, 1) := by decide +kernel
theorem dL_cells_174 : decode cL_cells 174 = .ok (.iconst 1, 1) := by decide +kernel
theorem dL_cells_175 : decode cL_cells 175 = .ok (.iconst 3, 1) := by decide +kernel
theorem dL_cells_176 : decode cL_cells 176 = .ok (.invokevirtual 94, 3) := by decide +kernel
theorem dL_cells_179 : decode cL_cells 179 = .ok (.iconst (-1), 1) := by decide +kernel
theorem dL_cells_180 : decode cL_cells 180 = .ok (.if_icmp .ne 13, 3) := by decide +kernel
theorem dL_cells_183 : decode cL_cells 183 = .ok (.aload_n 0, 1) := by decide +kernel
theorem dL_cells_184 : decode cL_cells 184 = .ok (.iconst 0, 1) := by decide +kernel
theorem dL_cells_185 : decode cL_cells 185 = .ok (.iconst 4, 1) := by decide +kernel
theorem dL_cells_186 : decode cL_cells 186 = .ok (.invokevirtual 94, 3) := by decide +kernel
theorem dL_cells_189 : decode cL_cells 189 = .ok (.iconst 1, 1) := by decide +kernel
theorem dL_cells_190 : decode cL_cells 190 = .ok (.if_icmp .eq 5, 3) := by decide +kernel
theorem dL_cells_193 : decode cL_cells 193 = .ok (.iconst 0, 1) := by decide +kernel
theorem dL_cells_194 : decode cL_cells 194 = .ok (.ireturn, 1) := by decide +kernel
theorem dL_cells_195 : decode cL_cells 195 = .ok (.aload_n 0, 1) := by decide +kernel
theorem dL_cells_196 : decode cL_cells 196 = .ok (.bipush 9, 2) := by decide +kernel
theorem dL_cells_198 : decode cL_cells 198 = .ok (.invokevirtual 106, 3) := by decide +kernel
theorem dL_cells_201 : decode cL_cells 201 = .ok (.bipush 40, 2) := by decide +kernel
theorem dL_cells_203 : decode cL_cells 203 = .ok (.if_icmp .ne 99, 3) := by decide +kernel
theorem dL_cells_206 : decode cL_cells 206 = .ok (.aload_n 0, 1) := by decide +kernel
theorem dL_cells_207 : decode cL_cells 207 = .ok (.iconst 3, 1) := by decide +kernel
theorem dL_cells_208 : decode cL_cells 208 = .ok (.invokevirtual 100, 3) := by decide +kernel
theorem dL_cells_211 : decode cL_cells 211 = .ok (.ifCond .ne 91, 3) := by decide +kernel
theorem dL_cells_214 : decode cL_cells 214 = .ok (.aload_n 0, 1) := by decide +kernel
theorem dL_cells_215 : decode cL_cells 215 = .ok (.iconst 4, 1) := by decide +kernel
theorem dL_cells_216 : decode cL_cells 216 = .ok (.invokevirtual 100, 3) := by decide +kernel
theorem dL_cells_219 : decode cL_cells 219 = .ok (.bipush 40, 2) := by decide +kernel
theorem dL_cells_221 : decode cL_cells 221 = .ok (.if_icmp .ne 81, 3) := by decide +kernel
theorem dL_cells_224 : decode cL_cells 224 = .ok (.aload_n 0, 1) := by decide +kernel
theorem dL_cells_225 : decode cL_cells 225 = .ok (.iconst 1, 1) := by decide +kernel
theorem dL_cells_226 : decode cL_cells 226 = .ok (.invokevirtual 100, 3) := by decide +kernel
theorem dL_cells_229 : decode cL_cells 229 = .ok (.ifCond .ne 73, 3) := by decide +kernel
theorem dL_cells_232 : decode cL_cells 232 = .ok (.aload_n 0, 1) := by decide +kernel
theorem dL_cells_233 : decode cL_cells 233 = .ok (.iconst 1, 1) := by decide +kernel
theorem dL_cells_234 : decode cL_cells 234 = .ok (.invokevirtual 106, 3) := by decide +kernel
theorem dL_cells_237 : decode cL_cells 237 = .ok (.bipush 40, 2) := by decide +kernel
theorem dL_cells_239 : decode cL_cells 239 = .ok (.if_icmp .ne 63, 3) := by decide +kernel
theorem dL_cells_242 : decode cL_cells 242 = .ok (.aload_n 0, 1) := by decide +kernel
theorem dL_cells_243 : decode cL_cells 243 = .ok (.invokevirtual 180, 3) := by decide +kernel
theorem dL_cells_246 : decode cL_cells 246 = .ok (.iconst 1, 1) := by decide +kernel
theorem dL_cells_247 : decode cL_cells 247 = .ok (.if_icmp .lt 55, 3) := by decide +kernel
theorem dL_cells_250 : decode cL_cells 250 = .ok (.aload_n 0, 1) := by decide +kernel
theorem dL_cells_251 : decode cL_cells 251 = .ok (.invokevirtual 187, 3) := by decide +kernel
theorem dL_cells_254 : decode cL_cells 254 = .ok (.ifCond .eq 48, 3) := by decide +kernel
theorem dL_cells_257 : decode cL_cells 257 = .ok (.aload_n 0, 1) := by decide +kernel
theorem dL_cells_258 : decode cL_cells 258 = .ok (.bipush 8, 2) := by decide +kernel
theorem dL_cells_260 : decode cL_cells 260 = .ok (.iconst 5, 1) := by decide +kernel
theorem dL_cells_261 : decode cL_cells 261 = .ok (.invokevirtual 133, 3) := by decide +kernel
theorem dL_cells_264 : decode cL_cells 264 = .ok (.ifCond .ne 38, 3) := by decide +kernel
theorem dL_cells_267 : decode cL_cells 267 = .ok (.aload_n 0, 1) := by decide +kernel
theorem dL_cells_268 : decode cL_cells 268 = .ok (.iconst 1, 1) := by decide +kernel
theorem dL_cells_269 : decode cL_cells 269 = .ok (.invokevirtual 100, 3) := by decide +kernel
theorem dL_cells_272 : decode cL_cells 272 = .ok (.iconst 5, 1) := by decide +kernel
theorem dL_cells_273 : decode cL_cells 273 = .ok (.if_icmp .ne 29, 3) := by decide +kernel
theorem dL_cells_276 : decode cL_cells 276 = .ok (.aload_n 0, 1) := by decide +kernel
theorem dL_cells_277 : decode cL_cells 277 = .ok (.bipush 6, 2) := by decide +kernel
theorem dL_cells_279 : decode cL_cells 279 = .ok (.invokevirtual 106, 3) := by decide +kernel
theorem dL_cells_282 : decode cL_cells 282 = .ok (.bipush 40, 2) := by decide +kernel
theorem dL_cells_284 : decode cL_cells 284 = .ok (.if_icmp .ne 18, 3) := by decide +kernel
theorem dL_cells_287 : decode cL_cells 287 = .ok (.aload_n 0, 1) := by decide +kernel
theorem dL_cells_288 : decode cL_cells 288 = .ok (.iconst 1, 1) := by decide +kernel
theorem dL_cells_289 : decode cL_cells 289 = .ok (.invokevirtual 106, 3) := by decide +kernel
theorem dL_cells_292 : decode cL_cells 292 = .ok (.ifCond .ne 10, 3) := by decide +kernel
theorem dL_cells_295 : decode cL_cells 295 = .ok (.aload_n 0, 1) := by decide +kernel
theorem dL_cells_296 : decode cL_cells 296 = .ok (.invokevirtual 187, 3) := by decide +kernel
theorem dL_cells_299 : decode cL_cells 299 = .ok (.ifCond .ne 5, 3) := by decide +kernel
theorem dL_cells_302 : decode cL_cells 302 = .ok (.iconst 0, 1) := by decide +kernel
theorem dL_cells_303 : decode cL_cells 303 = .ok (.ireturn, 1) := by decide +kernel
theorem dL_cells_304 : decode cL_cells 304 = .ok (.new 29, 3) := by decide +kernel
theorem dL_cells_307 : decode cL_cells 307 = .ok (.dup, 1) := by decide +kernel
theorem dL_cells_308 : decode cL_cells 308 = .ok (.invokespecial 179, 3) := by decide +kernel
theorem dL_cells_311 : decode cL_cells 311 = .ok (.astore_n 1, 1) := by decide +kernel
theorem dL_cells_312 : decode cL_cells 312 = .ok (.aload_n 1, 1) := by decide +kernel
theorem dL_cells_313 : decode cL_cells 313 = .ok (.ldc2_w 249, 3) := by decide +kernel
theorem dL_cells_316 : decode cL_cells 316 = .ok (.invokestatic 209, 3) := by decide +kernel
theorem dL_cells_319 : decode cL_cells 319 = .ok (.ifCond .eq 189, 3) := by decide +kernel
theorem dL_cells_322 : decode cL_cells 322 = .ok (.aload_n 1, 1) := by decide +kernel
theorem dL_cells_323 : decode cL_cells 323 = .ok (.ldc2_w 251, 3) := by decide +kernel
theorem dL_cells_326 : decode cL_cells 326 = .ok (.invokestatic 209, 3) := by decide +kernel
theorem dL_cells_329 : decode cL_cells 329 = .ok (.ifCond .eq 179, 3) := by decide +kernel
theorem dL_cells_332 : decode cL_cells 332 = .ok (.aload_n 1, 1) := by decide +kernel
theorem dL_cells_333 : decode cL_cells 333 = .ok (.ldc2_w 253, 3) := by decide +kernel
theorem dL_cells_336 : decode cL_cells 336 = .ok (.invokestatic 209, 3) := by decide +kernel
theorem dL_cells_339 : decode cL_cells 339 = .ok (.ifCond .eq 169, 3) := by decide +kernel
theorem dL_cells_342 : decode cL_cells 342 = .ok (.aload_n 1, 1) := by decide +kernel
theorem dL_cells_343 : decode cL_cells 343 = .ok (.ldc2_w 255, 3) := by decide +kernel
theorem dL_cells_346 : decode cL_cells 346 = .ok (.invokestatic 209, 3) := by decide +kernel
theorem dL_cells_349 : decode cL_cells 349 = .ok (.ifCond .eq 159, 3) := by decide +kernel
theorem dL_cells_352 : decode cL_cells 352 = .ok (.aload_n 1, 1) := by decide +kernel
theorem dL_cells_353 : decode cL_cells 353 = .ok (.invokevirtual 60, 3) := by decide +kernel
theorem dL_cells_356 : decode cL_cells 356 = .ok (.bipush 6, 2) := by decide +kernel
theorem dL_cells_358 : decode cL_cells 358 = .ok (.if_icmp .ne 150, 3) := by decide +kernel
theorem dL_cells_361 : decode cL_cells 361 = .ok (.aload_n 1, 1) := by decide +kernel
theorem dL_cells_362 : decode cL_cells 362 = .ok (.iconst 2, 1) := by decide +kernel
theorem dL_cells_363 : decode cL_cells 363 = .ok (.invokevirtual 100, 3) := by decide +kernel
theorem dL_cells_366 : decode cL_cells 366 = .ok (.bipush (-16), 2) := by decide +kernel
theorem dL_cells_368 : decode cL_cells 368 = .ok (.if_icmp .ne 140, 3) := by decide +kernel
theorem dL_cells_371 : decode cL_cells 371 = .ok (.aload_n 1, 1) := by decide +kernel
theorem dL_cells_372 : decode cL_cells 372 = .ok (.iconst 3, 1) := by decide +kernel
theorem dL_cells_373 : decode cL_cells 373 = .ok (.invokevirtual 100, 3) := by decide +kernel
theorem dL_cells_376 : decode cL_cells 376 = .ok (.bipush (-63), 2) := by decide +kernel
theorem dL_cells_378 : decode cL_cells 378 = .ok (.if_icmp .ne 130, 3) := by decide +kernel
theorem dL_cells_381 : decode cL_cells 381 = .ok (.aload_n 1, 1) := by decide +kernel
theorem dL_cells_382 : decode cL_cells 382 = .ok (.iconst 4, 1) := by decide +kernel
theorem dL_cells_383 : decode cL_cells 383 = .ok (.invokevirtual 100, 3) := by decide +kernel
theorem dL_cells_386 : decode cL_cells 386 = .ok (.bipush 7, 2) := by decide +kernel
theorem dL_cells_388 : decode cL_cells 388 = .ok (.if_icmp .ne 120, 3) := by decide +kernel
theorem dL_cells_391 : decode cL_cells 391 = .ok (.aload_n 1, 1) := by decide +kernel
theorem dL_cells_392 : decode cL_cells 392 = .ok (.iconst 5, 1) := by decide +kernel
theorem dL_cells_393 : decode cL_cells 393 = .ok (.invokevirtual 100, 3) := by decide +kernel
theorem dL_cells_396 : decode cL_cells 396 = .ok (.bipush (-56), 2) := by decide +kernel
theorem dL_cells_398 : decode cL_cells 398 = .ok (.if_icmp .ne 110, 3) := by decide +kernel
theorem dL_cells_401 : decode cL_cells 401 = .ok (.aload_n 1, 1) := by decide +kernel
theorem dL_cells_402 : decode cL_cells 402 = .ok (.bipush 11, 2) := by decide +kernel
theorem dL_cells_404 : decode cL_cells 404 = .ok (.ldc 7, 2) := by decide +kernel
theorem dL_cells_406 : decode cL_cells 406 = .ok (.invokevirtual 130, 3) := by decide +kernel
theorem dL_cells_409 : decode cL_cells 409 = .ok (.ifCond .ne 99, 3) := by decide +kernel
theorem dL_cells_412 : decode cL_cells 412 = .ok (.aload_n 1, 1) := by decide +kernel
theorem dL_cells_413 : decode cL_cells 413 = .ok (.bipush 6, 2) := by decide +kernel
theorem dL_cells_415 : decode cL_cells 415 = .ok (.iconst 1, 1) := by decide +kernel
theorem dL_cells_416 : decode cL_cells 416 = .ok (.bipush 10, 2) := by decide +kernel
theorem dL_cells_418 : decode cL_cells 418 = .ok (.bipush 11, 2) := by decide +kernel
theorem dL_cells_420 : decode cL_cells 420 = .ok (.iconst 1, 1) := by decide +kernel
theorem dL_cells_421 : decode cL_cells 421 = .ok (.iconst 0, 1) := by decide +kernel
theorem dL_cells_422 : decode cL_cells 422 = .ok (.invokevirtual 28, 3) := by decide +kernel
theorem dL_cells_425 : decode cL_cells 425 = .ok (.bipush 7, 2) := by decide +kernel
theorem dL_cells_427 : decode cL_cells 427 = .ok (.if_icmp .ne 81, 3) := by decide +kernel
theorem dL_cells_430 : decode cL_cells 430 = .ok (.aload_n 1, 1) := by decide +kernel
theorem dL_cells_431 : decode cL_cells 431 = .ok (.bipush 10, 2) := by decide +kernel
theorem dL_cells_433 : decode cL_cells 433 = .ok (.invokevirtual 100, 3) := by decide +kernel
theorem dL_cells_436 : decode cL_cells 436 = .ok (.ldc_w 257, 3) := by decide +kernel
theorem dL_cells_439 : decode cL_cells 439 = .ok (.if_icmp .ne 69, 3) := by decide +kernel
theorem dL_cells_442 : decode cL_cells 442 = .ok (.aload_n 1, 1) := by decide +kernel
theorem dL_cells_443 : decode cL_cells 443 = .ok (.invokevirtual 180, 3) := by decide +kernel
theorem dL_cells_446 : decode cL_cells 446 = .ok (.iconst 5, 1) := by decide +kernel
theorem dL_cells_447 : decode cL_cells 447 = .ok (.if_icmp .ne 61, 3) := by decide +kernel
theorem dL_cells_450 : decode cL_cells 450 = .ok (.aload_n 1, 1) := by decide +kernel
theorem dL_cells_451 : decode cL_cells 451 = .ok (.bipush 10, 2) := by decide +kernel
theorem dL_cells_453 : decode cL_cells 453 = .ok (.invokevirtual 103, 3) := by decide +kernel
theorem dL_cells_456 : decode cL_cells 456 = .ok (.ldc_w 257, 3) := by decide +kernel
theorem dL_cells_459 : decode cL_cells 459 = .ok (.if_icmp .ne 49, 3) := by decide +kernel
theorem dL_cells_462 : decode cL_cells 462 = .ok (.aload_n 1, 1) := by decide +kernel
theorem dL_cells_463 : decode cL_cells 463 = .ok (.iconst 5, 1) := by decide +kernel
theorem dL_cells_464 : decode cL_cells 464 = .ok (.invokevirtual 103, 3) := by decide +kernel
theorem dL_cells_467 : decode cL_cells 467 = .ok (.bipush (-56), 2) := by decide +kernel
theorem dL_cells_469 : decode cL_cells 469 = .ok (.if_icmp .ne 39, 3) := by decide +kernel
theorem dL_cells_472 : decode cL_cells 472 = .ok (.aload_n 1, 1) := by decide +kernel
theorem dL_cells_473 : decode cL_cells 473 = .ok (.bipush 6, 2) := by decide +kernel
theorem dL_cells_475 : decode cL_cells 475 = .ok (.invokevirtual 88, 3) := by decide +kernel
theorem dL_cells_478 : decode cL_cells 478 = .ok (.iconst 2, 1) := by decide +kernel
theorem dL_cells_479 : decode cL_cells 479 = .ok (.if_icmp .ne 29, 3) := by decide +kernel
theorem dL_cells_482 : decode cL_cells 482 = .ok (.aload_n 1, 1) := by decide +kernel
theorem dL_cells_483 : decode cL_cells 483 = .ok (.iconst 4, 1) := by decide +kernel
theorem dL_cells_484 : decode cL_cells 484 = .ok (.invokevirtual 88, 3) := by decide +kernel
theorem dL_cells_487 : decode cL_cells 487 = .ok (.iconst 1, 1) := by decide +kernel
theorem dL_cells_488 : decode cL_cells 488 = .ok (.if_icmp .ne 20, 3) := by decide +kernel
theorem dL_cells_491 : decode cL_cells 491 = .ok (.aload_n 1, 1) := by decide +kernel
theorem dL_cells_492 : decode cL_cells 492 = .ok (.invokevirtual 187, 3) := by decide +kernel
theorem dL_cells_495 : decode cL_cells 495 = .ok (.ifCond .eq 13, 3) := by decide +kernel
theorem dL_cells_498 : decode cL_cells 498 = .ok (.invokestatic 258, 3) := by decide +kernel
theorem dL_cells_501 : decode cL_cells 501 = .ok (.ifCond .eq 7, 3) := by decide +kernel
theorem dL_cells_504 : decode cL_cells 504 = .ok (.iconst 1, 1) := by decide +kernel
theorem dL_cells_505 : decode cL_cells 505 = .ok (.goto 4, 3) := by decide +kernel
theorem dL_cells_508 : decode cL_cells 508 = .ok (.iconst 0, 1) := by decide +kernel
theorem dL_cells_509 : decode cL_cells 509 = .ok (.ireturn, 1) := by decide +kernel
theorem dL_loops_0 : decode cL_loops 0 = .ok (.new 29, 3) := by decide +kernel
theorem dL_loops_3 : decode cL_loops 3 = .ok (.dup, 1) := by decide +kernel
theorem dL_loops_4 : decode cL_loops 4 = .ok (.invokespecial 179, 3) := by decide +kernel
theorem dL_loops_7 : decode cL_loops 7 = .ok (.astore_n 0, 1) := by decide +kernel
theorem dL_loops_8 : decode cL_loops 8 = .ok (.aload_n 0, 1) := by decide +kernel
theorem dL_loops_9 : decode cL_loops 9 = .ok (.iconst 1, 1) := by decide +kernel
theorem dL_loops_10 : decode cL_loops 10 = .ok (.iconst 3, 1) := by decide +kernel
theorem dL_loops_11 : decode cL_loops 11 = .ok (.invokevirtual 130, 3) := by decide +kernel
theorem dL_loops_14 : decode cL_loops 14 = .ok (.ifCond .ne 239, 3) := by decide +kernel
theorem dL_loops_17 : decode cL_loops 17 = .ok (.aload_n 0, 1) := by decide +kernel
theorem dL_loops_18 : decode cL_loops 18 = .ok (.iconst 0, 1) := by decide +kernel
theorem dL_loops_19 : decode cL_loops 19 = .ok (.iconst 1, 1) := by decide +kernel
theorem dL_loops_20 : decode cL_loops 20 = .ok (.iconst 0, 1) := by decide +kernel
theorem dL_loops_21 : decode cL_loops 21 = .ok (.iconst 0, 1) := by decide +kernel
theorem dL_loops_22 : decode cL_loops 22 = .ok (.iconst 1, 1) := by decide +kernel
theorem dL_loops_23 : decode cL_loops 23 = .ok (.iconst 0, 1) := by decide +kernel
theorem dL_loops_24 : decode cL_loops 24 = .ok (.invokevirtual 28, 3) := by decide +kernel
theorem dL_loops_27 : decode cL_loops 27 = .ok (.iconst 1, 1) := by decide +kernel
theorem dL_loops_28 : decode cL_loops 28 = .ok (.if_icmp .ne 225, 3) := by decide +kernel
theorem dL_loops_31 : decode cL_loops 31 = .ok (.aload_n 0, 1) := by decide +kernel
theorem dL_loops_32 : decode cL_loops 32 = .ok (.iconst 0, 1) := by decide +kernel
theorem dL_loops_33 : decode cL_loops 33 = .ok (.iconst 0, 1) := by decide +kernel
theorem dL_loops_34 : decode cL_loops 34 = .ok (.invokevirtual 97, 3) := by decide +kernel
theorem dL_loops_37 : decode cL_loops 37 = .ok (.iconst 1, 1) := by decide +kernel
theorem dL_loops_38 : decode cL_loops 38 = .ok (.if_icmp .ne 215, 3) := by decide +kernel
theorem dL_loops_41 : decode cL_loops 41 = .ok (.aload_n 0, 1) := by decide +kernel
theorem dL_loops_42 : decode cL_loops 42 = .ok (.iconst 0, 1) := by decide +kernel
theorem dL_loops_43 : decode cL_loops 43 = .ok (.iconst 0, 1) := by decide +kernel
theorem dL_loops_44 : decode cL_loops 44 = .ok (.invokevirtual 94, 3) := by decide +kernel
theorem dL_loops_47 : decode cL_loops 47 = .ok (.bipush (-99), 2) := by decide +kernel
theorem dL_loops_49 : decode cL_loops 49 = .ok (.if_icmp .ne 204, 3) := by decide +kernel
theorem dL_loops_52 : decode cL_loops 52 = .ok (.aload_n 0, 1) := by decide +kernel
theorem dL_loops_53 : decode cL_loops 53 = .ok (.invokevirtual 155, 3) := by decide +kernel
theorem dL_loops_56 : decode cL_loops 56 = .ok (.iconst 1, 1) := by decide +kernel
theorem dL_loops_57 : decode cL_loops 57 = .ok (.if_icmp .ne 196, 3) := by decide +kernel
theorem dL_loops_60 : decode cL_loops 60 = .ok (.aload_n 0, 1) := by decide +kernel
theorem dL_loops_61 : decode cL_loops 61 = .ok (.invokevirtual 191, 3) := by decide +kernel
theorem dL_loops_64 : decode cL_loops 64 = .ok (.iconst 1, 1) := by decide +kernel
theorem dL_loops_65 : decode cL_loops 65 = .ok (.if_icmp .ne 188, 3) := by decide +kernel
theorem dL_loops_68 : decode cL_loops 68 = .ok (.aload_n 0, 1) := by decide +kernel
theorem dL_loops_69 : decode cL_loops 69 = .ok (.invokevirtual 194, 3) := by decide +kernel
theorem dL_loops_72 : decode cL_loops 72 = .ok (.iconst 2, 1) := by decide +kernel
theorem dL_loops_73 : decode cL_loops 73 = .ok (.if_icmp .ne 180, 3) := by decide +kernel
theorem dL_loops_76 : decode cL_loops 76 = .ok (.aload_n 0, 1) := by decide +kernel
theorem dL_loops_77 : decode cL_loops 77 = .ok (.invokevirtual 158, 3) := by decide +kernel
theorem dL_loops_80 : decode cL_loops 80 = .ok (.ifCond .ne 173, 3) := by decide +kernel
theorem dL_loops_83 : decode cL_loops 83 = .ok (.aload_n 0, 1) := by decide +kernel
theorem dL_loops_84 : decode cL_loops 84 = .ok (.iconst 5, 1) := by decide +kernel
theorem dL_loops_85 : decode cL_loops 85 = .ok (.invokevirtual 127, 3) := by decide +kernel
theorem dL_loops_88 : decode cL_loops 88 = .ok (.bipush 9, 2) := by decide +kernel
theorem dL_loops_90 : decode cL_loops 90 = .ok (.if_icmp .ne 163, 3) := by decide +kernel
theorem dL_loops_93 : decode cL_loops 93 = .ok (.aload_n 0, 1) := by decide +kernel
theorem dL_loops_94 : decode cL_loops 94 = .ok (.iconst 5, 1) := by decide +kernel
theorem dL_loops_95 : decode cL_loops 95 = .ok (.iconst 0, 1) := by decide +kernel
theorem dL_loops_96 : decode cL_loops 96 = .ok (.invokevirtual 115, 3) := by decide +kernel
theorem dL_loops_99 : decode cL_loops 99 = .ok (.bipush 15, 2) := by decide +kernel
theorem dL_loops_101 : decode cL_loops 101 = .ok (.if_icmp .ne 152, 3) := by decide +kernel
theorem dL_loops_104 : decode cL_loops 104 = .ok (.aload_n 0, 1) := by decide +kernel
theorem dL_loops_105 : decode cL_loops 105 = .ok (.iconst 5, 1) := by decide +kernel
theorem dL_loops_106 : decode cL_loops 106 = .ok (.iconst 0, 1) := by decide +kernel
theorem dL_loops_107 : decode cL_loops 107 = .ok (.invokevirtual 118, 3) := by decide +kernel
theorem dL_loops_110 : decode cL_loops 110 = .ok (.bipush 15, 2) := by decide +kernel
theorem dL_loops_112 : decode cL_loops 112 = .ok (.if_icmp .ne 141, 3) := by decide +kernel
theorem dL_loops_115 : decode cL_loops 115 = .ok (.aload_n 0, 1) := by decide +kernel
theorem dL_loops_116 : decode cL_loops 116 = .ok (.iconst 0, 1) := by decide +kernel
theorem dL_loops_117 : decode cL_loops 117 = .ok (.invokevirtual 48, 3) := by decide +kernel
theorem dL_loops_120 : decode cL_loops 120 = .ok (.iconst 1, 1) := by decide +kernel
theorem dL_loops_121 : decode cL_loops 121 = .ok (.if_icmp .ne 132, 3) := by decide +kernel
theorem dL_loops_124 : decode cL_loops 124 = .ok (.aload_n 0, 1) := by decide +kernel
theorem dL_loops_125 : decode cL_loops 125 = .ok (.invokevirtual 194, 3) := by decide +kernel
theorem dL_loops_128 : decode cL_loops 128 = .ok (.iconst 1, 1) := by decide +kernel
theorem dL_loops_129 : decode cL_loops 129 = .ok (.if_icmp .ne 124, 3) := by decide +kernel
theorem dL_loops_132 : decode cL_loops 132 = .ok (.aload_n 0, 1) := by decide +kernel
theorem dL_loops_133 : decode cL_loops 133 = .ok (.invokevirtual 158, 3) := by decide +kernel
theorem dL_loops_136 : decode cL_loops 136 = .ok (.ifCond .ne 117, 3) := by decide +kernel
theorem dL_loops_139 : decode cL_loops 139 = .ok (.aload_n 0, 1) := by decide +kernel
theorem dL_loops_140 : decode cL_loops 140 = .ok (.invokevirtual 197, 3) := by decide +kernel
theorem dL_loops_143 : decode cL_loops 143 = .ok (.iconst 1, 1) := by decide +kernel
theorem dL_loops_144 : decode cL_loops 144 = .ok (.if_icmp .ne 109, 3) := by decide +kernel
theorem dL_loops_147 : decode cL_loops 147 = .ok (.aload_n 0, 1) := by decide +kernel
theorem dL_loops_148 : decode cL_loops 148 = .ok (.iconst 5, 1) := by decide +kernel
theorem dL_loops_149 : decode cL_loops 149 = .ok (.invokevirtual 127, 3) := by decide +kernel
theorem dL_loops_152 : decode cL_loops 152 = .ok (.iconst 5, 1) := by decide +kernel
theorem dL_loops_153 : decode cL_loops 153 = .ok (.if_icmp .ne 100, 3) := by decide +kernel
theorem dL_loops_156 : decode cL_loops 156 = .ok (.aload_n 0, 1) := by decide +kernel
theorem dL_loops_157 : decode cL_loops 157 = .ok (.iconst 5, 1) := by decide +kernel
theorem dL_loops_158 : decode cL_loops 158 = .ok (.iconst 0, 1) := by decide +kernel
theorem dL_loops_159 : decode cL_loops 159 = .ok (.invokevirtual 115, 3) := by decide +kernel
theorem dL_loops_162 : decode cL_loops 162 = .ok (.bipush 15, 2) := by decide +kernel
theorem dL_loops_164 : decode cL_loops 164 = .ok (.if_icmp .ne 89, 3) := by decide +kernel
theorem dL_loops_167 : decode cL_loops 167 = .ok (.aload_n 0, 1) := by decide +kernel
theorem dL_loops_168 : decode cL_loops 168 = .ok (.bipush 20, 2) := by decide +kernel
theorem dL_loops_170 : decode cL_loops 170 = .ok (.iconst 0, 1) := by decide +kernel
theorem dL_loops_171 : decode cL_loops 171 = .ok (.invokevirtual 115, 3) := by decide +kernel
theorem dL_loops_174 : decode cL_loops 174 = .ok (.bipush 60, 2) := by decide +kernel
theorem dL_loops_176 : decode cL_loops 176 = .ok (.if_icmp .ne 77, 3) := by decide +kernel
theorem dL_loops_179 : decode cL_loops 179 = .ok (.aload_n 0, 1) := by decide +kernel
theorem dL_loops_180 : decode cL_loops 180 = .ok (.iconst 0, 1) := by decide +kernel
theorem dL_loops_181 : decode cL_loops 181 = .ok (.iconst 1, 1) := by decide +kernel
theorem dL_loops_182 : decode cL_loops 182 = .ok (.invokevirtual 42, 3) := by decide +kernel
theorem dL_loops_185 : decode cL_loops 185 = .ok (.iconst 2, 1) := by decide +kernel
theorem dL_loops_186 : decode cL_loops 186 = .ok (.if_icmp .ne 67, 3) := by decide +kernel
theorem dL_loops_189 : decode cL_loops 189 = .ok (.aload_n 0, 1) := by decide +kernel
theorem dL_loops_190 : decode cL_loops 190 = .ok (.invokevirtual 155, 3) := by decide +kernel
theorem dL_loops_193 : decode cL_loops 193 = .ok (.iconst 2, 1) := by decide +kernel
theorem dL_loops_194 : decode cL_loops 194 = .ok (.if_icmp .ne 59, 3) := by decide +kernel
theorem dL_loops_197 : decode cL_loops 197 = .ok (.aload_n 0, 1) := by decide +kernel
theorem dL_loops_198 : decode cL_loops 198 = .ok (.invokevirtual 194, 3) := by decide +kernel
theorem dL_loops_201 : decode cL_loops 201 = .ok (.iconst 2, 1) := by decide +kernel
theorem dL_loops_202 : decode cL_loops 202 = .ok (.if_icmp .ne 51, 3) := by decide +kernel
theorem dL_loops_205 : decode cL_loops 205 = .ok (.aload_n 0, 1) := by decide +kernel
theorem dL_loops_206 : decode cL_loops 206 = .ok (.invokevirtual 158, 3) := by decide +kernel
theorem dL_loops_209 : decode cL_loops 209 = .ok (.iconst 1, 1) := by decide +kernel
theorem dL_loops_210 : decode cL_loops 210 = .ok (.if_icmp .ne 43, 3) := by decide +kernel
theorem dL_loops_213 : decode cL_loops 213 = .ok (.aload_n 0, 1) := by decide +kernel
theorem dL_loops_214 : decode cL_loops 214 = .ok (.iconst 0, 1) := by decide +kernel
theorem dL_loops_215 : decode cL_loops 215 = .ok (.invokevirtual 91, 3) := by decide +kernel
theorem dL_loops_218 : decode cL_loops 218 = .ok (.ifCond .ne 35, 3) := by decide +kernel
theorem dL_loops_221 : decode cL_loops 221 = .ok (.aload_n 0, 1) := by decide +kernel
theorem dL_loops_222 : decode cL_loops 222 = .ok (.iconst 3, 1) := by decide +kernel
theorem dL_loops_223 : decode cL_loops 223 = .ok (.invokevirtual 48, 3) := by decide +kernel
theorem dL_loops_226 : decode cL_loops 226 = .ok (.ifCond .ne 27, 3) := by decide +kernel
theorem dL_loops_229 : decode cL_loops 229 = .ok (.aload_n 0, 1) := by decide +kernel
theorem dL_loops_230 : decode cL_loops 230 = .ok (.invokevirtual 194, 3) := by decide +kernel
theorem dL_loops_233 : decode cL_loops 233 = .ok (.iconst 4, 1) := by decide +kernel
theorem dL_loops_234 : decode cL_loops 234 = .ok (.if_icmp .ne 19, 3) := by decide +kernel
theorem dL_loops_237 : decode cL_loops 237 = .ok (.aload_n 0, 1) := by decide +kernel
theorem dL_loops_238 : decode cL_loops 238 = .ok (.invokevirtual 158, 3) := by decide +kernel
theorem dL_loops_241 : decode cL_loops 241 = .ok (.ifCond .ne 12, 3) := by decide +kernel
theorem dL_loops_244 : decode cL_loops 244 = .ok (.aload_n 0, 1) := by decide +kernel
theorem dL_loops_245 : decode cL_loops 245 = .ok (.iconst 0, 1) := by decide +kernel
theorem dL_loops_246 : decode cL_loops 246 = .ok (.invokevirtual 91, 3) := by decide +kernel
theorem dL_loops_249 : decode cL_loops 249 = .ok (.iconst 1, 1) := by decide +kernel
theorem dL_loops_250 : decode cL_loops 250 = .ok (.if_icmp .eq 5, 3) := by decide +kernel
theorem dL_loops_253 : decode cL_loops 253 = .ok (.iconst 0, 1) := by decide +kernel
theorem dL_loops_254 : decode cL_loops 254 = .ok (.ireturn, 1) := by decide +kernel
theorem dL_loops_255 : decode cL_loops 255 = .ok (.aload_n 0, 1) := by decide +kernel
theorem dL_loops_256 : decode cL_loops 256 = .ok (.iconst 0, 1) := by decide +kernel
theorem dL_loops_257 : decode cL_loops 257 = .ok (.iconst 2, 1) := by decide +kernel
theorem dL_loops_258 : decode cL_loops 258 = .ok (.invokevirtual 42, 3) := by decide +kernel
theorem dL_loops_261 : decode cL_loops 261 = .ok (.iconst 1, 1) := by decide +kernel
theorem dL_loops_262 : decode cL_loops 262 = .ok (.if_icmp .ne 201, 3) := by decide +kernel
theorem dL_loops_265 : decode cL_loops 265 = .ok (.aload_n 0, 1) := by decide +kernel
theorem dL_loops_266 : decode cL_loops 266 = .ok (.iconst 0, 1) := by decide +kernel
theorem dL_loops_267 : decode cL_loops 267 = .ok (.invokevirtual 48, 3) := by decide +kernel
theorem dL_loops_270 : decode cL_loops 270 = .ok (.iconst 3, 1) := by decide +kernel
theorem dL_loops_271 : decode cL_loops 271 = .ok (.if_icmp .ne 192, 3) := by decide +kernel
theorem dL_loops_274 : decode cL_loops 274 = .ok (.aload_n 0, 1) := by decide +kernel
theorem dL_loops_275 : decode cL_loops 275 = .ok (.iconst 1, 1) := by decide +kernel
theorem dL_loops_276 : decode cL_loops 276 = .ok (.iconst 3, 1) := by decide +kernel
theorem dL_loops_277 : decode cL_loops 277 = .ok (.iconst 2, 1) := by decide +kernel
theorem dL_loops_278 : decode cL_loops 278 = .ok (.iconst 2, 1) := by decide +kernel
theorem dL_loops_279 : decode cL_loops 279 = .ok (.iconst 0, 1) := by decide +kernel
theorem dL_loops_280 : decode cL_loops 280 = .ok (.iconst 0, 1) := by decide +kernel
theorem dL_loops_281 : decode cL_loops 281 = .ok (.invokevirtual 28, 3) := by decide +kernel
theorem dL_loops_284 : decode cL_loops 284 = .ok (.iconst 2, 1) := by decide +kernel
theorem dL_loops_285 : decode cL_loops 285 = .ok (.if_icmp .ne 178, 3) := by decide +kernel
theorem dL_loops_288 : decode cL_loops 288 = .ok (.aload_n 0, 1) := by decide +kernel
theorem dL_loops_289 : decode cL_loops 289 = .ok (.iconst 2, 1) := by decide +kernel
theorem dL_loops_290 : decode cL_loops 290 = .ok (.iconst 1, 1) := by decide +kernel
theorem dL_loops_291 : decode cL_loops 291 = .ok (.invokevirtual 130, 3) := by decide +kernel
theorem dL_loops_294 : decode cL_loops 294 = .ok (.ifCond .ne 169, 3) := by decide +kernel
theorem dL_loops_297 : decode cL_loops 297 = .ok (.aload_n 0, 1) := by decide +kernel
theorem dL_loops_298 : decode cL_loops 298 = .ok (.iconst 1, 1) := by decide +kernel
theorem dL_loops_299 : decode cL_loops 299 = .ok (.iconst 1, 1) := by decide +kernel
theorem dL_loops_300 : decode cL_loops 300 = .ok (.invokevirtual 97, 3) := by decide +kernel
theorem dL_loops_303 : decode cL_loops 303 = .ok (.iconst 3, 1) := by decide +kernel
theorem dL_loops_304 : decode cL_loops 304 = .ok (.if_icmp .ne 159, 3) := by decide +kernel
theorem dL_loops_307 : decode cL_loops 307 = .ok (.aload_n 0, 1) := by decide +kernel
theorem dL_loops_308 : decode cL_loops 308 = .ok (.iconst 0, 1) := by decide +kernel
theorem dL_loops_309 : decode cL_loops 309 = .ok (.iconst 1, 1) := by decide +kernel
theorem dL_loops_310 : decode cL_loops 310 = .ok (.invokevirtual 94, 3) := by decide +kernel
theorem dL_loops_313 : decode cL_loops 313 = .ok (.iconst 1, 1) := by decide +kernel
theorem dL_loops_314 : decode cL_loops 314 = .ok (.if_icmp .ne 149, 3) := by decide +kernel
theorem dL_loops_317 : decode cL_loops 317 = .ok (.aload_n 0, 1) := by decide +kernel
theorem dL_loops_318 : decode cL_loops 318 = .ok (.iconst 1, 1) := by decide +kernel
theorem dL_loops_319 : decode cL_loops 319 = .ok (.iconst 0, 1) := by decide +kernel
theorem dL_loops_320 : decode cL_loops 320 = .ok (.invokevirtual 97, 3) := by decide +kernel
theorem dL_loops_323 : decode cL_loops 323 = .ok (.ifCond .ne 140, 3) := by decide +kernel
theorem dL_loops_326 : decode cL_loops 326 = .ok (.aload_n 0, 1) := by decide +kernel
theorem dL_loops_327 : decode cL_loops 327 = .ok (.invokevirtual 191, 3) := by decide +kernel
theorem dL_loops_330 : decode cL_loops 330 = .ok (.iconst 3, 1) := by decide +kernel
theorem dL_loops_331 : decode cL_loops 331 = .ok (.if_icmp .ne 132, 3) := by decide +kernel
theorem dL_loops_334 : decode cL_loops 334 = .ok (.aload_n 0, 1) := by decide +kernel
theorem dL_loops_335 : decode cL_loops 335 = .ok (.invokevirtual 234, 3) := by decide +kernel
theorem dL_loops_338 : decode cL_loops 338 = .ok (.iconst 3, 1) := by decide +kernel
theorem dL_loops_339 : decode cL_loops 339 = .ok (.if_icmp .ne 124, 3) := by decide +kernel
theorem dL_loops_342 : decode cL_loops 342 = .ok (.aload_n 0, 1) := by decide +kernel
theorem dL_loops_343 : decode cL_loops 343 = .ok (.invokevirtual 194, 3) := by decide +kernel
theorem dL_loops_346 : decode cL_loops 346 = .ok (.iconst 3, 1) := by decide +kernel
theorem dL_loops_347 : decode cL_loops 347 = .ok (.if_icmp .ne 116, 3) := by decide +kernel
theorem dL_loops_350 : decode cL_loops 350 = .ok (.aload_n 0, 1) := by decide +kernel
theorem dL_loops_351 : decode cL_loops 351 = .ok (.iconst 1, 1) := by decide +kernel
theorem dL_loops_352 : decode cL_loops 352 = .ok (.invokevirtual 91, 3) := by decide +kernel
theorem dL_loops_355 : decode cL_loops 355 = .ok (.iconst 1, 1) := by decide +kernel
theorem dL_loops_356 : decode cL_loops 356 = .ok (.if_icmp .ne 107, 3) := by decide +kernel
theorem dL_loops_359 : decode cL_loops 359 = .ok (.aload_n 0, 1) := by decide +kernel
theorem dL_loops_360 : decode cL_loops 360 = .ok (.iconst 4, 1) := by decide +kernel
theorem dL_loops_361 : decode cL_loops 361 = .ok (.iconst 2, 1) := by decide +kernel
theorem dL_loops_362 : decode cL_loops 362 = .ok (.invokevirtual 118, 3) := by decide +kernel
theorem dL_loops_365 : decode cL_loops 365 = .ok (.sipush 1944, 3) := by decide +kernel
theorem dL_loops_368 : decode cL_loops 368 = .ok (.if_icmp .ne 95, 3) := by decide +kernel
theorem dL_loops_371 : decode cL_loops 371 = .ok (.aload_n 0, 1) := by decide +kernel
theorem dL_loops_372 : decode cL_loops 372 = .ok (.iconst 4, 1) := by decide +kernel
theorem dL_loops_373 : decode cL_loops 373 = .ok (.iconst 2, 1) := by decide +kernel
theorem dL_loops_374 : decode cL_loops 374 = .ok (.invokevirtual 115, 3) := by decide +kernel
theorem dL_loops_377 : decode cL_loops 377 = .ok (.sipush 1944, 3) := by decide +kernel
theorem dL_loops_380 : decode cL_loops 380 = .ok (.if_icmp .ne 83, 3) := by decide +kernel
theorem dL_loops_383 : decode cL_loops 383 = .ok (.aload_n 0, 1) := by decide +kernel
theorem dL_loops_384 : decode cL_loops 384 = .ok (.iconst 4, 1) := by decide +kernel
theorem dL_loops_385 : decode cL_loops 385 = .ok (.invokevirtual 127, 3) := by decide +kernel
theorem dL_loops_388 : decode cL_loops 388 = .ok (.bipush 11, 2) := by decide +kernel
theorem dL_loops_390 : decode cL_loops 390 = .ok (.if_icmp .ne 73, 3) := by decide +kernel
theorem dL_loops_393 : decode cL_loops 393 = .ok (.aload_n 0, 1) := by decide +kernel
theorem dL_loops_394 : decode cL_loops 394 = .ok (.iconst 1, 1) := by decide +kernel
theorem dL_loops_395 : decode cL_loops 395 = .ok (.iconst 1, 1) := by decide +kernel
theorem dL_loops_396 : decode cL_loops 396 = .ok (.invokevirtual 45, 3) := by decide +kernel
theorem dL_loops_399 : decode cL_loops 399 = .ok (.iconst 3, 1) := by decide +kernel
theorem dL_loops_400 : decode cL_loops 400 = .ok (.if_icmp .ne 63, 3) := by decide +kernel
theorem dL_loops_403 : decode cL_loops 403 = .ok (.aload_n 0, 1) := by decide +kernel
theorem dL_loops_404 : decode cL_loops 404 = .ok (.invokevirtual 191, 3) := by decide +kernel
theorem dL_loops_407 : decode cL_loops 407 = .ok (.iconst 1, 1) := by decide +kernel
theorem dL_loops_408 : decode cL_loops 408 = .ok (.if_icmp .ne 55, 3) := by decide +kernel
theorem dL_loops_411 : decode cL_loops 411 = .ok (.aload_n 0, 1) := by decide +kernel
theorem dL_loops_412 : decode cL_loops 412 = .ok (.invokevirtual 194, 3) := by decide +kernel
theorem dL_loops_415 : decode cL_loops 415 = .ok (.iconst 1, 1) := by decide +kernel
theorem dL_loops_416 : decode cL_loops 416 = .ok (.if_icmp .ne 47, 3) := by decide +kernel
theorem dL_loops_419 : decode cL_loops 419 = .ok (.aload_n 0, 1) := by decide +kernel
theorem dL_loops_420 : decode cL_loops 420 = .ok (.invokevirtual 197, 3) := by decide +kernel
theorem dL_loops_423 : decode cL_loops 423 = .ok (.iconst 2, 1) := by decide +kernel
theorem dL_loops_424 : decode cL_loops 424 = .ok (.if_icmp .ne 39, 3) := by decide +kernel
theorem dL_loops_427 : decode cL_loops 427 = .ok (.aload_n 0, 1) := by decide +kernel
theorem dL_loops_428 : decode cL_loops 428 = .ok (.iconst 0, 1) := by decide +kernel
theorem dL_loops_429 : decode cL_loops 429 = .ok (.invokevirtual 91, 3) := by decide +kernel
theorem dL_loops_432 : decode cL_loops 432 = .ok (.ifCond .ne 31, 3) := by decide +kernel
theorem dL_loops_435 : decode cL_loops 435 = .ok (.aload_n 0, 1) := by decide +kernel
theorem dL_loops_436 : decode cL_loops 436 = .ok (.iconst 1, 1) := by decide +kernel
theorem dL_loops_437 : decode cL_loops 437 = .ok (.invokevirtual 91, 3) := by decide +kernel
theorem dL_loops_440 : decode cL_loops 440 = .ok (.iconst 1, 1) := by decide +kernel
theorem dL_loops_441 : decode cL_loops 441 = .ok (.if_icmp .ne 22, 3) := by decide +kernel
theorem dL_loops_444 : decode cL_loops 444 = .ok (.aload_n 0, 1) := by decide +kernel
theorem dL_loops_445 : decode cL_loops 445 = .ok (.iconst 4, 1) := by decide +kernel
theorem dL_loops_446 : decode cL_loops 446 = .ok (.iconst 2, 1) := by decide +kernel
theorem dL_loops_447 : decode cL_loops 447 = .ok (.invokevirtual 115, 3) := by decide +kernel
theorem dL_loops_450 : decode cL_loops 450 = .ok (.sipush 1944, 3) := by decide +kernel
theorem dL_loops_453 : decode cL_loops 453 = .ok (.if_icmp .ne 10, 3) := by decide +kernel
theorem dL_loops_456 : decode cL_loops 456 = .ok (.aload_n 0, 1) := by decide +kernel
theorem dL_loops_457 : decode cL_loops 457 = .ok (.invokestatic 203, 3) := by decide +kernel
theorem dL_loops_460 : decode cL_loops 460 = .ok (.ifCond .ne 5, 3) := by decide +kernel
theorem dL_loops_463 : decode cL_loops 463 = .ok (.iconst 0, 1) := by decide +kernel
theorem dL_loops_464 : decode cL_loops 464 = .ok (.ireturn, 1) := by decide +kernel
theorem dL_loops_465 : decode cL_loops 465 = .ok (.aload_n 0, 1) := by decide +kernel
theorem dL_loops_466 : decode cL_loops 466 = .ok (.iconst 0, 1) := by decide +kernel
theorem dL_loops_467 : decode cL_loops 467 = .ok (.invokevirtual 34, 3) := by decide +kernel
theorem dL_loops_470 : decode cL_loops 470 = .ok (.iconst 1, 1) := by decide +kernel
theorem dL_loops_471 : decode cL_loops 471 = .ok (.if_icmp .ne 36, 3) := by decide +kernel
theorem dL_loops_474 : decode cL_loops 474 = .ok (.aload_n 0, 1) := by decide +kernel
theorem dL_loops_475 : decode cL_loops 475 = .ok (.iconst 0, 1) := by decide +kernel
theorem dL_loops_476 : decode cL_loops 476 = .ok (.invokevirtual 70, 3) := by decide +kernel
theorem dL_loops_479 : decode cL_loops 479 = .ok (.iconst 3, 1) := by decide +kernel
theorem dL_loops_480 : decode cL_loops 480 = .ok (.if_icmp .ne 27, 3) := by decide +kernel
theorem dL_loops_483 : decode cL_loops 483 = .ok (.aload_n 0, 1) := by decide +kernel
theorem dL_loops_484 : decode cL_loops 484 = .ok (.bipush 9, 2) := by decide +kernel
theorem dL_loops_486 : decode cL_loops 486 = .ok (.iconst 2, 1) := by decide +kernel
theorem dL_loops_487 : decode cL_loops 487 = .ok (.invokevirtual 118, 3) := by decide +kernel
theorem dL_loops_490 : decode cL_loops 490 = .ok (.ifCond .ne 17, 3) := by decide +kernel
theorem dL_loops_493 : decode cL_loops 493 = .ok (.aload_n 0, 1) := by decide +kernel
theorem dL_loops_494 : decode cL_loops 494 = .ok (.iconst 0, 1) := by decide +kernel
theorem dL_loops_495 : decode cL_loops 495 = .ok (.iconst 2, 1) := by decide +kernel
theorem dL_loops_496 : decode cL_loops 496 = .ok (.invokevirtual 118, 3) := by decide +kernel
theorem dL_loops_499 : decode cL_loops 499 = .ok (.iconst 1, 1) := by decide +kernel
theorem dL_loops_500 : decode cL_loops 500 = .ok (.if_icmp .ne 7, 3) := by decide +kernel
theorem dL_loops_503 : decode cL_loops 503 = .ok (.iconst 1, 1) := by decide +kernel
theorem dL_loops_504 : decode cL_loops 504 = .ok (.goto 4, 3) := by decide +kernel
theorem dL_loops_507 : decode cL_loops 507 = .ok (.iconst 0, 1) := by decide +kernel
theorem dL_loops_508 : decode cL_loops 508 = .ok (.ireturn, 1) := by decide +kernel
theorem dL_limits_0 : decode cL_limits 0 = .ok (.new 29, 3) := by decide +kernel
theorem dL_limits_3 : decode cL_limits 3 = .ok (.dup, 1) := by decide +kernel
theorem dL_limits_4 : decode cL_limits 4 = .ok (.invokespecial 179, 3) := by decide +kernel
theorem dL_limits_7 : decode cL_limits 7 = .ok (.astore_n 0, 1) := by decide +kernel
theorem dL_limits_8 : decode cL_limits 8 = .ok (.iconst 0, 1) := by decide +kernel
theorem dL_limits_9 : decode cL_limits 9 = .ok (.istore_n 1, 1) := by decide +kernel
theorem dL_limits_10 : decode cL_limits 10 = .ok (.iload_n 1, 1) := by decide +kernel
theorem dL_limits_11 : decode cL_limits 11 = .ok (.bipush 20, 2) := by decide +kernel
theorem dL_limits_13 : decode cL_limits 13 = .ok (.if_icmp .ge 30, 3) := by decide +kernel
theorem dL_limits_16 : decode cL_limits 16 = .ok (.aload_n 0, 1) := by decide +kernel
theorem dL_limits_17 : decode cL_limits 17 = .ok (.iconst 0, 1) := by decide +kernel
theorem dL_limits_18 : decode cL_limits 18 = .ok (.iconst 0, 1) := by decide +kernel
theorem dL_limits_19 : decode cL_limits 19 = .ok (.iload_n 1, 1) := by decide +kernel
theorem dL_limits_20 : decode cL_limits 20 = .ok (.bipush 12, 2) := by decide +kernel
theorem dL_limits_22 : decode cL_limits 22 = .ok (.irem, 1) := by decide +kernel
theorem dL_limits_23 : decode cL_limits 23 = .ok (.iconst 0, 1) := by decide +kernel
theorem dL_limits_24 : decode cL_limits 24 = .ok (.iconst 0, 1) := by decide +kernel
theorem dL_limits_25 : decode cL_limits 25 = .ok (.iload_n 1, 1) := by decide +kernel
theorem dL_limits_26 : decode cL_limits 26 = .ok (.invokevirtual 28, 3) := by decide +kernel
theorem dL_limits_29 : decode cL_limits 29 = .ok (.iload_n 1, 1) := by decide +kernel
theorem dL_limits_30 : decode cL_limits 30 = .ok (.iconst 1, 1) := by decide +kernel
theorem dL_limits_31 : decode cL_limits 31 = .ok (.iadd, 1) := by decide +kernel
theorem dL_limits_32 : decode cL_limits 32 = .ok (.if_icmp .eq 5, 3) := by decide +kernel
theorem dL_limits_35 : decode cL_limits 35 = .ok (.iconst 0, 1) := by decide +kernel
theorem dL_limits_36 : decode cL_limits 36 = .ok (.ireturn, 1) := by decide +kernel
theorem dL_limits_37 : decode cL_limits 37 = .ok (.iinc 1 1, 3) := by decide +kernel
theorem dL_limits_40 : decode cL_limits 40 = .ok (.goto (-30), 3) := by decide +kernel
theorem dL_limits_43 : decode cL_limits 43 = .ok (.aload_n 0, 1) := by decide +kernel
theorem dL_limits_44 : decode cL_limits 44 = .ok (.iconst 0, 1) := by decide +kernel
theorem dL_limits_45 : decode cL_limits 45 = .ok (.bipush 20, 2) := by decide +kernel
theorem dL_limits_47 : decode cL_limits 47 = .ok (.iconst 0, 1) := by decide +kernel
theorem dL_limits_48 : decode cL_limits 48 = .ok (.iconst 0, 1) := by decide +kernel
theorem dL_limits_49 : decode cL_limits 49 = .ok (.iconst 0, 1) := by decide +kernel
theorem dL_limits_50 : decode cL_limits 50 = .ok (.invokestatic 161, 3) := by decide +kernel
theorem dL_limits_53 : decode cL_limits 53 = .ok (.sipush (-2013), 3) := by decide +kernel
theorem dL_limits_56 : decode cL_limits 56 = .ok (.if_icmp .ne 130, 3) := by decide +kernel
theorem dL_limits_59 : decode cL_limits 59 = .ok (.aload_n 0, 1) := by decide +kernel
theorem dL_limits_60 : decode cL_limits 60 = .ok (.ldc2_w 262, 3) := by decide +kernel
theorem dL_limits_63 : decode cL_limits 63 = .ok (.invokestatic 209, 3) := by decide +kernel
theorem dL_limits_66 : decode cL_limits 66 = .ok (.ifCond .eq 120, 3) := by decide +kernel
theorem dL_limits_69 : decode cL_limits 69 = .ok (.aload_n 0, 1) := by decide +kernel
theorem dL_limits_70 : decode cL_limits 70 = .ok (.bipush 9, 2) := by decide +kernel
theorem dL_limits_72 : decode cL_limits 72 = .ok (.iconst 0, 1) := by decide +kernel
theorem dL_limits_73 : decode cL_limits 73 = .ok (.iconst 0, 1) := by decide +kernel
theorem dL_limits_74 : decode cL_limits 74 = .ok (.iconst 0, 1) := by decide +kernel
theorem dL_limits_75 : decode cL_limits 75 = .ok (.iconst 0, 1) := by decide +kernel
theorem dL_limits_76 : decode cL_limits 76 = .ok (.invokestatic 161, 3) := by decide +kernel
theorem dL_limits_79 : decode cL_limits 79 = .ok (.sipush (-2013), 3) := by decide +kernel
theorem dL_limits_82 : decode cL_limits 82 = .ok (.if_icmp .ne 104, 3) := by decide +kernel
theorem dL_limits_85 : decode cL_limits 85 = .ok (.aload_n 0, 1) := by decide +kernel
theorem dL_limits_86 : decode cL_limits 86 = .ok (.invokevirtual 219, 3) := by decide +kernel
theorem dL_limits_89 : decode cL_limits 89 = .ok (.iconst 3, 1) := by decide +kernel
theorem dL_limits_90 : decode cL_limits 90 = .ok (.if_icmp .ne 96, 3) := by decide +kernel
theorem dL_limits_93 : decode cL_limits 93 = .ok (.aload_n 0, 1) := by decide +kernel
theorem dL_limits_94 : decode cL_limits 94 = .ok (.invokevirtual 152, 3) := by decide +kernel
theorem dL_limits_97 : decode cL_limits 97 = .ok (.bipush 10, 2) := by decide +kernel
theorem dL_limits_99 : decode cL_limits 99 = .ok (.if_icmp .ne 87, 3) := by decide +kernel
theorem dL_limits_102 : decode cL_limits 102 = .ok (.aload_n 0, 1) := by decide +kernel
theorem dL_limits_103 : decode cL_limits 103 = .ok (.invokevirtual 180, 3) := by decide +kernel
theorem dL_limits_106 : decode cL_limits 106 = .ok (.bipush 10, 2) := by decide +kernel
theorem dL_limits_108 : decode cL_limits 108 = .ok (.if_icmp .ne 78, 3) := by decide +kernel
theorem dL_limits_111 : decode cL_limits 111 = .ok (.aload_n 0, 1) := by decide +kernel
theorem dL_limits_112 : decode cL_limits 112 = .ok (.iconst 0, 1) := by decide +kernel
theorem dL_limits_113 : decode cL_limits 113 = .ok (.invokevirtual 100, 3) := by decide +kernel
theorem dL_limits_116 : decode cL_limits 116 = .ok (.ifCond .ne 70, 3) := by decide +kernel
theorem dL_limits_119 : decode cL_limits 119 = .ok (.aload_n 0, 1) := by decide +kernel
theorem dL_limits_120 : decode cL_limits 120 = .ok (.bipush 7, 2) := by decide +kernel
theorem dL_limits_122 : decode cL_limits 122 = .ok (.invokevirtual 100, 3) := by decide +kernel
theorem dL_limits_125 : decode cL_limits 125 = .ok (.bipush 7, 2) := by decide +kernel
theorem dL_limits_127 : decode cL_limits 127 = .ok (.if_icmp .ne 59, 3) := by decide +kernel
theorem dL_limits_130 : decode cL_limits 130 = .ok (.aload_n 0, 1) := by decide +kernel
theorem dL_limits_131 : decode cL_limits 131 = .ok (.bipush 8, 2) := by decide +kernel
theorem dL_limits_133 : decode cL_limits 133 = .ok (.invokevirtual 100, 3) := by decide +kernel
theorem dL_limits_136 : decode cL_limits 136 = .ok (.bipush 8, 2) := by decide +kernel
theorem dL_limits_138 : decode cL_limits 138 = .ok (.if_icmp .ne 48, 3) := by decide +kernel
theorem dL_limits_141 : decode cL_limits 141 = .ok (.aload_n 0, 1) := by decide +kernel
theorem dL_limits_142 : decode cL_limits 142 = .ok (.iconst 0, 1) := by decide +kernel
theorem dL_limits_143 : decode cL_limits 143 = .ok (.invokevirtual 103, 3) := by decide +kernel
theorem dL_limits_146 : decode cL_limits 146 = .ok (.ifCond .ne 40, 3) := by decide +kernel
theorem dL_limits_149 : decode cL_limits 149 = .ok (.aload_n 0, 1) := by decide +kernel
theorem dL_limits_150 : decode cL_limits 150 = .ok (.invokevirtual 187, 3) := by decide +kernel
theorem dL_limits_153 : decode cL_limits 153 = .ok (.ifCond .eq 33, 3) := by decide +kernel
theorem dL_limits_156 : decode cL_limits 156 = .ok (.aload_n 0, 1) := by decide +kernel
theorem dL_limits_157 : decode cL_limits 157 = .ok (.invokevirtual 155, 3) := by decide +kernel
theorem dL_limits_160 : decode cL_limits 160 = .ok (.bipush 11, 2) := by decide +kernel
theorem dL_limits_162 : decode cL_limits 162 = .ok (.if_icmp .ne 24, 3) := by decide +kernel
theorem dL_limits_165 : decode cL_limits 165 = .ok (.aload_n 0, 1) := by decide +kernel
theorem dL_limits_166 : decode cL_limits 166 = .ok (.bipush 19, 2) := by decide +kernel
theorem dL_limits_168 : decode cL_limits 168 = .ok (.invokevirtual 34, 3) := by decide +kernel
theorem dL_limits_171 : decode cL_limits 171 = .ok (.bipush 19, 2) := by decide +kernel
theorem dL_limits_173 : decode cL_limits 173 = .ok (.if_icmp .ne 13, 3) := by decide +kernel
theorem dL_limits_176 : decode cL_limits 176 = .ok (.aload_n 0, 1) := by decide +kernel
theorem dL_limits_177 : decode cL_limits 177 = .ok (.iconst 0, 1) := by decide +kernel
theorem dL_limits_178 : decode cL_limits 178 = .ok (.invokevirtual 34, 3) := by decide +kernel
theorem dL_limits_181 : decode cL_limits 181 = .ok (.bipush 18, 2) := by decide +kernel
theorem dL_limits_183 : decode cL_limits 183 = .ok (.if_icmp .eq 5, 3) := by decide +kernel
theorem dL_limits_186 : decode cL_limits 186 = .ok (.iconst 0, 1) := by decide +kernel
theorem dL_limits_187 : decode cL_limits 187 = .ok (.ireturn, 1) := by decide +kernel
theorem dL_limits_188 : decode cL_limits 188 = .ok (.aload_n 0, 1) := by decide +kernel
theorem dL_limits_189 : decode cL_limits 189 = .ok (.iconst 0, 1) := by decide +kernel
theorem dL_limits_190 : decode cL_limits 190 = .ok (.invokevirtual 100, 3) := by decide +kernel
theorem dL_limits_193 : decode cL_limits 193 = .ok (.bipush 12, 2) := by decide +kernel
theorem dL_limits_195 : decode cL_limits 195 = .ok (.if_icmp .ne 39, 3) := by decide +kernel
theorem dL_limits_198 : decode cL_limits 198 = .ok (.aload_n 0, 1) := by decide +kernel
theorem dL_limits_199 : decode cL_limits 199 = .ok (.invokevirtual 64, 3) := by decide +kernel
theorem dL_limits_202 : decode cL_limits 202 = .ok (.iconst 4, 1) := by decide +kernel
theorem dL_limits_203 : decode cL_limits 203 = .ok (.if_icmp .ne 31, 3) := by decide +kernel
theorem dL_limits_206 : decode cL_limits 206 = .ok (.aload_n 0, 1) := by decide +kernel
theorem dL_limits_207 : decode cL_limits 207 = .ok (.invokevirtual 64, 3) := by decide +kernel
theorem dL_limits_210 : decode cL_limits 210 = .ok (.iconst 3, 1) := by decide +kernel
theorem dL_limits_211 : decode cL_limits 211 = .ok (.if_icmp .ne 23, 3) := by decide +kernel
theorem dL_limits_214 : decode cL_limits 214 = .ok (.aload_n 0, 1) := by decide +kernel
theorem dL_limits_215 : decode cL_limits 215 = .ok (.invokevirtual 140, 3) := by decide +kernel
theorem dL_limits_218 : decode cL_limits 218 = .ok (.bipush 20, 2) := by decide +kernel
theorem dL_limits_220 : decode cL_limits 220 = .ok (.if_icmp .ne 14, 3) := by decide +kernel
theorem dL_limits_223 : decode cL_limits 223 = .ok (.aload_n 0, 1) := by decide +kernel
theorem dL_limits_224 : decode cL_limits 224 = .ok (.invokestatic 203, 3) := by decide +kernel
theorem dL_limits_227 : decode cL_limits 227 = .ok (.ifCond .eq 7, 3) := by decide +kernel
theorem dL_limits_230 : decode cL_limits 230 = .ok (.iconst 1, 1) := by decide +kernel
theorem dL_limits_231 : decode cL_limits 231 = .ok (.goto 4, 3) := by decide +kernel
theorem dL_limits_234 : decode cL_limits 234 = .ok (.iconst 0, 1) := by decide +kernel
theorem dL_limits_235 : decode cL_limits 235 = .ok (.ireturn, 1) := by decide +kernel
theorem dL_texts_0 : decode cL_texts 0 = .ok (.new 29, 3) := by decide +kernel
theorem dL_texts_3 : decode cL_texts 3 = .ok (.dup, 1) := by decide +kernel
theorem dL_texts_4 : decode cL_texts 4 = .ok (.invokespecial 179, 3) := by decide +kernel
theorem dL_texts_7 : decode cL_texts 7 = .ok (.astore_n 0, 1) := by decide +kernel
theorem dL_texts_8 : decode cL_texts 8 = .ok (.aload_n 0, 1) := by decide +kernel
theorem dL_texts_9 : decode cL_texts 9 = .ok (.ldc2_w 267, 3) := by decide +kernel
theorem dL_texts_12 : decode cL_texts 12 = .ok (.lconst 0, 1) := by decide +kernel
theorem dL_texts_13 : decode cL_texts 13 = .ok (.iconst 3, 1) := by decide +kernel
theorem dL_texts_14 : decode cL_texts 14 = .ok (.invokestatic 269, 3) := by decide +kernel
theorem dL_texts_17 : decode cL_texts 17 = .ok (.ifCond .eq 113, 3) := by decide +kernel
theorem dL_texts_20 : decode cL_texts 20 = .ok (.aload_n 0, 1) := by decide +kernel
theorem dL_texts_21 : decode cL_texts 21 = .ok (.ldc2_w 273, 3) := by decide +kernel
theorem dL_texts_24 : decode cL_texts 24 = .ok (.lconst 0, 1) := by decide +kernel
theorem dL_texts_25 : decode cL_texts 25 = .ok (.iconst 3, 1) := by decide +kernel
theorem dL_texts_26 : decode cL_texts 26 = .ok (.invokestatic 269, 3) := by decide +kernel
theorem dL_texts_29 : decode cL_texts 29 = .ok (.ifCond .eq 101, 3) := by decide +kernel
theorem dL_texts_32 : decode cL_texts 32 = .ok (.aload_n 0, 1) := by decide +kernel
theorem dL_texts_33 : decode cL_texts 33 = .ok (.ldc2_w 275, 3) := by decide +kernel
theorem dL_texts_36 : decode cL_texts 36 = .ok (.lconst 0, 1) := by decide +kernel
theorem dL_texts_37 : decode cL_texts 37 = .ok (.iconst 4, 1) := by decide +kernel
theorem dL_texts_38 : decode cL_texts 38 = .ok (.invokestatic 269, 3) := by decide +kernel
theorem dL_texts_41 : decode cL_texts 41 = .ok (.ifCond .eq 89, 3) := by decide +kernel
theorem dL_texts_44 : decode cL_texts 44 = .ok (.aload_n 0, 1) := by decide +kernel
theorem dL_texts_45 : decode cL_texts 45 = .ok (.ldc2_w 277, 3) := by decide +kernel
theorem dL_texts_48 : decode cL_texts 48 = .ok (.lconst 0, 1) := by decide +kernel
theorem dL_texts_49 : decode cL_texts 49 = .ok (.iconst 3, 1) := by decide +kernel
theorem dL_texts_50 : decode cL_texts 50 = .ok (.invokestatic 269, 3) := by decide +kernel
theorem dL_texts_53 : decode cL_texts 53 = .ok (.ifCond .eq 77, 3) := by decide +kernel
theorem dL_texts_56 : decode cL_texts 56 = .ok (.aload_n 0, 1) := by decide +kernel
theorem dL_texts_57 : decode cL_texts 57 = .ok (.ldc2_w 279, 3) := by decide +kernel
theorem dL_texts_60 : decode cL_texts 60 = .ok (.lconst 0, 1) := by decide +kernel
theorem dL_texts_61 : decode cL_texts 61 = .ok (.iconst 3, 1) := by decide +kernel
theorem dL_texts_62 : decode cL_texts 62 = .ok (.invokestatic 269, 3) := by decide +kernel
theorem dL_texts_65 : decode cL_texts 65 = .ok (.ifCond .eq 65, 3) := by decide +kernel
theorem dL_texts_68 : decode cL_texts 68 = .ok (.aload_n 0, 1) := by decide +kernel
theorem dL_texts_69 : decode cL_texts 69 = .ok (.ldc2_w 281, 3) := by decide +kernel
theorem dL_texts_72 : decode cL_texts 72 = .ok (.lconst 0, 1) := by decide +kernel
theorem dL_texts_73 : decode cL_texts 73 = .ok (.iconst 5, 1) := by decide +kernel
theorem dL_texts_74 : decode cL_texts 74 = .ok (.invokestatic 269, 3) := by decide +kernel
theorem dL_texts_77 : decode cL_texts 77 = .ok (.ifCond .eq 53, 3) := by decide +kernel
theorem dL_texts_80 : decode cL_texts 80 = .ok (.aload_n 0, 1) := by decide +kernel
theorem dL_texts_81 : decode cL_texts 81 = .ok (.ldc2_w 283, 3) := by decide +kernel
theorem dL_texts_84 : decode cL_texts 84 = .ok (.lconst 0, 1) := by decide +kernel
theorem dL_texts_85 : decode cL_texts 85 = .ok (.iconst 3, 1) := by decide +kernel
theorem dL_texts_86 : decode cL_texts 86 = .ok (.invokestatic 269, 3) := by decide +kernel
theorem dL_texts_89 : decode cL_texts 89 = .ok (.ifCond .eq 41, 3) := by decide +kernel
theorem dL_texts_92 : decode cL_texts 92 = .ok (.aload_n 0, 1) := by decide +kernel
theorem dL_texts_93 : decode cL_texts 93 = .ok (.ldc2_w 285, 3) := by decide +kernel
theorem dL_texts_96 : decode cL_texts 96 = .ok (.lconst 0, 1) := by decide +kernel
theorem dL_texts_97 : decode cL_texts 97 = .ok (.bipush 8, 2) := by decide +kernel
theorem dL_texts_99 : decode cL_texts 99 = .ok (.invokestatic 269, 3) := by decide +kernel
theorem dL_texts_102 : decode cL_texts 102 = .ok (.ifCond .eq 28, 3) := by decide +kernel
theorem dL_texts_105 : decode cL_texts 105 = .ok (.aload_n 0, 1) := by decide +kernel
theorem dL_texts_106 : decode cL_texts 106 = .ok (.ldc2_w 287, 3) := by decide +kernel
theorem dL_texts_109 : decode cL_texts 109 = .ok (.lconst 0, 1) := by decide +kernel
theorem dL_texts_110 : decode cL_texts 110 = .ok (.bipush 6, 2) := by decide +kernel
theorem dL_texts_112 : decode cL_texts 112 = .ok (.invokestatic 269, 3) := by decide +kernel
theorem dL_texts_115 : decode cL_texts 115 = .ok (.ifCond .eq 15, 3) := by decide +kernel
theorem dL_texts_118 : decode cL_texts 118 = .ok (.aload_n 0, 1) := by decide +kernel
theorem dL_texts_119 : decode cL_texts 119 = .ok (.ldc2_w 289, 3) := by decide +kernel
theorem dL_texts_122 : decode cL_texts 122 = .ok (.lconst 0, 1) := by decide +kernel
theorem dL_texts_123 : decode cL_texts 123 = .ok (.iconst 4, 1) := by decide +kernel
theorem dL_texts_124 : decode cL_texts 124 = .ok (.invokestatic 269, 3) := by decide +kernel
theorem dL_texts_127 : decode cL_texts 127 = .ok (.ifCond .ne 5, 3) := by decide +kernel
theorem dL_texts_130 : decode cL_texts 130 = .ok (.iconst 0, 1) := by decide +kernel
theorem dL_texts_131 : decode cL_texts 131 = .ok (.ireturn, 1) := by decide +kernel
theorem dL_texts_132 : decode cL_texts 132 = .ok (.aload_n 0, 1) := by decide +kernel
theorem dL_texts_133 : decode cL_texts 133 = .ok (.ldc2_w 291, 3) := by decide +kernel
theorem dL_texts_136 : decode cL_texts 136 = .ok (.lconst 0, 1) := by decide +kernel
theorem dL_texts_137 : decode cL_texts 137 = .ok (.bipush 7, 2) := by decide +kernel
theorem dL_texts_139 : decode cL_texts 139 = .ok (.invokestatic 269, 3) := by decide +kernel
theorem dL_texts_142 : decode cL_texts 142 = .ok (.ifCond .eq 112, 3) := by decide +kernel
theorem dL_texts_145 : decode cL_texts 145 = .ok (.aload_n 0, 1) := by decide +kernel
theorem dL_texts_146 : decode cL_texts 146 = .ok (.ldc2_w 293, 3) := by decide +kernel
theorem dL_texts_149 : decode cL_texts 149 = .ok (.lconst 0, 1) := by decide +kernel
theorem dL_texts_150 : decode cL_texts 150 = .ok (.iconst 5, 1) := by decide +kernel
theorem dL_texts_151 : decode cL_texts 151 = .ok (.invokestatic 269, 3) := by decide +kernel
theorem dL_texts_154 : decode cL_texts 154 = .ok (.ifCond .eq 100, 3) := by decide +kernel
theorem dL_texts_157 : decode cL_texts 157 = .ok (.aload_n 0, 1) := by decide +kernel
theorem dL_texts_158 : decode cL_texts 158 = .ok (.ldc2_w 295, 3) := by decide +kernel
theorem dL_texts_161 : decode cL_texts 161 = .ok (.lconst 0, 1) := by decide +kernel
theorem dL_texts_162 : decode cL_texts 162 = .ok (.iconst 0, 1) := by decide +kernel
theorem dL_texts_163 : decode cL_texts 163 = .ok (.invokestatic 269, 3) := by decide +kernel
theorem dL_texts_166 : decode cL_texts 166 = .ok (.ifCond .eq 88, 3) := by decide +kernel
theorem dL_texts_169 : decode cL_texts 169 = .ok (.aload_n 0, 1) := by decide +kernel
theorem dL_texts_170 : decode cL_texts 170 = .ok (.ldc2_w 297, 3) := by decide +kernel
theorem dL_texts_173 : decode cL_texts 173 = .ok (.lconst 0, 1) := by decide +kernel
theorem dL_texts_174 : decode cL_texts 174 = .ok (.iconst 4, 1) := by decide +kernel
theorem dL_texts_175 : decode cL_texts 175 = .ok (.invokestatic 269, 3) := by decide +kernel
theorem dL_texts_178 : decode cL_texts 178 = .ok (.ifCond .eq 76, 3) := by decide +kernel
theorem dL_texts_181 : decode cL_texts 181 = .ok (.aload_n 0, 1) := by decide +kernel
theorem dL_texts_182 : decode cL_texts 182 = .ok (.ldc2_w 299, 3) := by decide +kernel
theorem dL_texts_185 : decode cL_texts 185 = .ok (.lconst 0, 1) := by decide +kernel
theorem dL_texts_186 : decode cL_texts 186 = .ok (.iconst 3, 1) := by decide +kernel
theorem dL_texts_187 : decode cL_texts 187 = .ok (.invokestatic 269, 3) := by decide +kernel
theorem dL_texts_190 : decode cL_texts 190 = .ok (.ifCond .eq 64, 3) := by decide +kernel
theorem dL_texts_193 : decode cL_texts 193 = .ok (.aload_n 0, 1) := by decide +kernel
theorem dL_texts_194 : decode cL_texts 194 = .ok (.lconst 0, 1) := by decide +kernel
theorem dL_texts_195 : decode cL_texts 195 = .ok (.lconst 0, 1) := by decide +kernel
theorem dL_texts_196 : decode cL_texts 196 = .ok (.iconst 0, 1) := by decide +kernel
theorem dL_texts_197 : decode cL_texts 197 = .ok (.invokestatic 269, 3) := by decide +kernel
theorem dL_texts_200 : decode cL_texts 200 = .ok (.ifCond .eq 54, 3) := by decide +kernel
theorem dL_texts_203 : decode cL_texts 203 = .ok (.aload_n 0, 1) := by decide +kernel
theorem dL_texts_204 : decode cL_texts 204 = .ok (.ldc2_w 301, 3) := by decide +kernel
theorem dL_texts_207 : decode cL_texts 207 = .ok (.ldc2_w 303, 3) := by decide +kernel
theorem dL_texts_210 : decode cL_texts 210 = .ok (.bipush 10, 2) := by decide +kernel
theorem dL_texts_212 : decode cL_texts 212 = .ok (.invokestatic 269, 3) := by decide +kernel
theorem dL_texts_215 : decode cL_texts 215 = .ok (.ifCond .eq 39, 3) := by decide +kernel
theorem dL_texts_218 : decode cL_texts 218 = .ok (.aload_n 0, 1) := by decide +kernel
theorem dL_texts_219 : decode cL_texts 219 = .ok (.ldc2_w 305, 3) := by decide +kernel
theorem dL_texts_222 : decode cL_texts 222 = .ok (.lconst 0, 1) := by decide +kernel
theorem dL_texts_223 : decode cL_texts 223 = .ok (.iconst 5, 1) := by decide +kernel
theorem dL_texts_224 : decode cL_texts 224 = .ok (.invokestatic 269, 3) := by decide +kernel
theorem dL_texts_227 : decode cL_texts 227 = .ok (.ifCond .eq 27, 3) := by decide +kernel
theorem dL_texts_230 : decode cL_texts 230 = .ok (.aload_n 0, 1) := by decide +kernel
theorem dL_texts_231 : decode cL_texts 231 = .ok (.ldc2_w 307, 3) := by decide +kernel
theorem dL_texts_234 : decode cL_texts 234 = .ok (.lconst 0, 1) := by decide +kernel
theorem dL_texts_235 : decode cL_texts 235 = .ok (.iconst 1, 1) := by decide +kernel
theorem dL_texts_236 : decode cL_texts 236 = .ok (.invokestatic 269, 3) := by decide +kernel
theorem dL_texts_239 : decode cL_texts 239 = .ok (.ifCond .eq 15, 3) := by decide +kernel
theorem dL_texts_242 : decode cL_texts 242 = .ok (.aload_n 0, 1) := by decide +kernel
theorem dL_texts_243 : decode cL_texts 243 = .ok (.ldc2_w 309, 3) := by decide +kernel
theorem dL_texts_246 : decode cL_texts 246 = .ok (.lconst 0, 1) := by decide +kernel
theorem dL_texts_247 : decode cL_texts 247 = .ok (.iconst 0, 1) := by decide +kernel
theorem dL_texts_248 : decode cL_texts 248 = .ok (.invokestatic 269, 3) := by decide +kernel
theorem dL_texts_251 : decode cL_texts 251 = .ok (.ifCond .ne 5, 3) := by decide +kernel
theorem dL_texts_254 : decode cL_texts 254 = .ok (.iconst 0, 1) := by decide +kernel
theorem dL_texts_255 : decode cL_texts 255 = .ok (.ireturn, 1) := by decide +kernel
theorem dL_texts_256 : decode cL_texts 256 = .ok (.aload_n 0, 1) := by decide +kernel
theorem dL_texts_257 : decode cL_texts 257 = .ok (.bipush 9, 2) := by decide +kernel
theorem dL_texts_259 : decode cL_texts 259 = .ok (.iconst 0, 1) := by decide +kernel
theorem dL_texts_260 : decode cL_texts 260 = .ok (.iconst 0, 1) := by decide +kernel
theorem dL_texts_261 : decode cL_texts 261 = .ok (.iconst 0, 1) := by decide +kernel
theorem dL_texts_262 : decode cL_texts 262 = .ok (.iconst 0, 1) := by decide +kernel
theorem dL_texts_263 : decode cL_texts 263 = .ok (.invokestatic 161, 3) := by decide +kernel
theorem dL_texts_266 : decode cL_texts 266 = .ok (.sipush (-2012), 3) := by decide +kernel
theorem dL_texts_269 : decode cL_texts 269 = .ok (.if_icmp .ne 72, 3) := by decide +kernel
theorem dL_texts_272 : decode cL_texts 272 = .ok (.aload_n 0, 1) := by decide +kernel
theorem dL_texts_273 : decode cL_texts 273 = .ok (.invokevirtual 219, 3) := by decide +kernel
theorem dL_texts_276 : decode cL_texts 276 = .ok (.iconst 3, 1) := by decide +kernel
theorem dL_texts_277 : decode cL_texts 277 = .ok (.if_icmp .ne 64, 3) := by decide +kernel
theorem dL_texts_280 : decode cL_texts 280 = .ok (.aload_n 0, 1) := by decide +kernel
theorem dL_texts_281 : decode cL_texts 281 = .ok (.ldc2_w 311, 3) := by decide +kernel
theorem dL_texts_284 : decode cL_texts 284 = .ok (.invokestatic 209, 3) := by decide +kernel
theorem dL_texts_287 : decode cL_texts 287 = .ok (.ifCond .eq 54, 3) := by decide +kernel
theorem dL_texts_290 : decode cL_texts 290 = .ok (.aload_n 0, 1) := by decide +kernel
theorem dL_texts_291 : decode cL_texts 291 = .ok (.invokevirtual 60, 3) := by decide +kernel
theorem dL_texts_294 : decode cL_texts 294 = .ok (.iconst 2, 1) := by decide +kernel
theorem dL_texts_295 : decode cL_texts 295 = .ok (.if_icmp .ne 46, 3) := by decide +kernel
theorem dL_texts_298 : decode cL_texts 298 = .ok (.aload_n 0, 1) := by decide +kernel
theorem dL_texts_299 : decode cL_texts 299 = .ok (.iconst 0, 1) := by decide +kernel
theorem dL_texts_300 : decode cL_texts 300 = .ok (.invokevirtual 100, 3) := by decide +kernel
theorem dL_texts_303 : decode cL_texts 303 = .ok (.bipush (-7), 2) := by decide +kernel
theorem dL_texts_305 : decode cL_texts 305 = .ok (.if_icmp .ne 36, 3) := by decide +kernel
theorem dL_texts_308 : decode cL_texts 308 = .ok (.aload_n 0, 1) := by decide +kernel
theorem dL_texts_309 : decode cL_texts 309 = .ok (.bipush 11, 2) := by decide +kernel
theorem dL_texts_311 : decode cL_texts 311 = .ok (.invokevirtual 100, 3) := by decide +kernel
theorem dL_texts_314 : decode cL_texts 314 = .ok (.bipush 9, 2) := by decide +kernel
theorem dL_texts_316 : decode cL_texts 316 = .ok (.if_icmp .ne 25, 3) := by decide +kernel
theorem dL_texts_319 : decode cL_texts 319 = .ok (.aload_n 0, 1) := by decide +kernel
theorem dL_texts_320 : decode cL_texts 320 = .ok (.invokevirtual 237, 3) := by decide +kernel
theorem dL_texts_323 : decode cL_texts 323 = .ok (.iconst 1, 1) := by decide +kernel
theorem dL_texts_324 : decode cL_texts 324 = .ok (.if_icmp .ne 17, 3) := by decide +kernel
theorem dL_texts_327 : decode cL_texts 327 = .ok (.aload_n 0, 1) := by decide +kernel
theorem dL_texts_328 : decode cL_texts 328 = .ok (.invokevirtual 64, 3) := by decide +kernel
theorem dL_texts_331 : decode cL_texts 331 = .ok (.ifCond .ne 10, 3) := by decide +kernel
theorem dL_texts_334 : decode cL_texts 334 = .ok (.aload_n 0, 1) := by decide +kernel
theorem dL_texts_335 : decode cL_texts 335 = .ok (.invokevirtual 140, 3) := by decide +kernel
theorem dL_texts_338 : decode cL_texts 338 = .ok (.ifCond .eq 5, 3) := by decide +kernel
theorem dL_texts_341 : decode cL_texts 341 = .ok (.iconst 0, 1) := by decide +kernel
theorem dL_texts_342 : decode cL_texts 342 = .ok (.ireturn, 1) := by decide +kernel
theorem dL_texts_343 : decode cL_texts 343 = .ok (.iconst 0, 1) := by decide +kernel
theorem dL_texts_344 : decode cL_texts 344 = .ok (.istore_n 1, 1) := by decide +kernel
theorem dL_texts_345 : decode cL_texts 345 = .ok (.iload_n 1, 1) := by decide +kernel
theorem dL_texts_346 : decode cL_texts 346 = .ok (.bipush 60, 2) := by decide +kernel
theorem dL_texts_348 : decode cL_texts 348 = .ok (.if_icmp .ge 68, 3) := by decide +kernel
theorem dL_texts_351 : decode cL_texts 351 = .ok (.aload_n 0, 1) := by decide +kernel
theorem dL_texts_352 : decode cL_texts 352 = .ok (.iload_n 1, 1) := by decide +kernel
theorem dL_texts_353 : decode cL_texts 353 = .ok (.iconst 4, 1) := by decide +kernel
theorem dL_texts_354 : decode cL_texts 354 = .ok (.irem, 1) := by decide +kernel
theorem dL_texts_355 : decode cL_texts 355 = .ok (.ifCond .ne 8, 3) := by decide +kernel
theorem dL_texts_358 : decode cL_texts 358 = .ok (.bipush 98, 2) := by decide +kernel
theorem dL_texts_360 : decode cL_texts 360 = .ok (.goto 29, 3) := by decide +kernel
theorem dL_texts_363 : decode cL_texts 363 = .ok (.iload_n 1, 1) := by decide +kernel
theorem dL_texts_364 : decode cL_texts 364 = .ok (.iconst 4, 1) := by decide +kernel
theorem dL_texts_365 : decode cL_texts 365 = .ok (.irem, 1) := by decide +kernel
theorem dL_texts_366 : decode cL_texts 366 = .ok (.iconst 1, 1) := by decide +kernel
theorem dL_texts_367 : decode cL_texts 367 = .ok (.if_icmp .ne 8, 3) := by decide +kernel
theorem dL_texts_370 : decode cL_texts 370 = .ok (.bipush 61, 2) := by decide +kernel
theorem dL_texts_372 : decode cL_texts 372 = .ok (.goto 17, 3) := by decide +kernel
theorem dL_texts_375 : decode cL_texts 375 = .ok (.iload_n 1, 1) := by decide +kernel
theorem dL_texts_376 : decode cL_texts 376 = .ok (.iconst 4, 1) := by decide +kernel
theorem dL_texts_377 : decode cL_texts 377 = .ok (.irem, 1) := by decide +kernel
theorem dL_texts_378 : decode cL_texts 378 = .ok (.iconst 2, 1) := by decide +kernel
theorem dL_texts_379 : decode cL_texts 379 = .ok (.if_icmp .ne 8, 3) := by decide +kernel
theorem dL_texts_382 : decode cL_texts 382 = .ok (.bipush 51, 2) := by decide +kernel
theorem dL_texts_384 : decode cL_texts 384 = .ok (.goto 5, 3) := by decide +kernel
theorem dL_texts_387 : decode cL_texts 387 = .ok (.bipush 59, 2) := by decide +kernel
theorem dL_texts_389 : decode cL_texts 389 = .ok (.invokevirtual 57, 3) := by decide +kernel
theorem dL_texts_392 : decode cL_texts 392 = .ok (.iload_n 1, 1) := by decide +kernel
theorem dL_texts_393 : decode cL_texts 393 = .ok (.iconst 1, 1) := by decide +kernel
theorem dL_texts_394 : decode cL_texts 394 = .ok (.iadd, 1) := by decide +kernel
theorem dL_texts_395 : decode cL_texts 395 = .ok (.if_icmp .ne 13, 3) := by decide +kernel
theorem dL_texts_398 : decode cL_texts 398 = .ok (.aload_n 0, 1) := by decide +kernel
theorem dL_texts_399 : decode cL_texts 399 = .ok (.invokevirtual 264, 3) := by decide +kernel
theorem dL_texts_402 : decode cL_texts 402 = .ok (.iload_n 1, 1) := by decide +kernel
theorem dL_texts_403 : decode cL_texts 403 = .ok (.iconst 1, 1) := by decide +kernel
theorem dL_texts_404 : decode cL_texts 404 = .ok (.iadd, 1) := by decide +kernel
theorem dL_texts_405 : decode cL_texts 405 = .ok (.if_icmp .eq 5, 3) := by decide +kernel
theorem dL_texts_408 : decode cL_texts 408 = .ok (.iconst 0, 1) := by decide +kernel
theorem dL_texts_409 : decode cL_texts 409 = .ok (.ireturn, 1) := by decide +kernel
theorem dL_texts_410 : decode cL_texts 410 = .ok (.iinc 1 1, 3) := by decide +kernel
theorem dL_texts_413 : decode cL_texts 413 = .ok (.goto (-68), 3) := by decide +kernel
theorem dL_texts_416 : decode cL_texts 416 = .ok (.aload_n 0, 1) := by decide +kernel
theorem dL_texts_417 : decode cL_texts 417 = .ok (.bipush 8, 2) := by decide +kernel
theorem dL_texts_419 : decode cL_texts 419 = .ok (.bipush 98, 2) := by decide +kernel
theorem dL_texts_421 : decode cL_texts 421 = .ok (.iconst 0, 1) := by decide +kernel
theorem dL_texts_422 : decode cL_texts 422 = .ok (.iconst 0, 1) := by decide +kernel
theorem dL_texts_423 : decode cL_texts 423 = .ok (.iconst 0, 1) := by decide +kernel
theorem dL_texts_424 : decode cL_texts 424 = .ok (.invokestatic 161, 3) := by decide +kernel
theorem dL_texts_427 : decode cL_texts 427 = .ok (.sipush (-2013), 3) := by decide +kernel
theorem dL_texts_430 : decode cL_texts 430 = .ok (.if_icmp .ne 32, 3) := by decide +kernel
theorem dL_texts_433 : decode cL_texts 433 = .ok (.aload_n 0, 1) := by decide +kernel
theorem dL_texts_434 : decode cL_texts 434 = .ok (.bipush 9, 2) := by decide +kernel
theorem dL_texts_436 : decode cL_texts 436 = .ok (.iconst 0, 1) := by decide +kernel
theorem dL_texts_437 : decode cL_texts 437 = .ok (.iconst 0, 1) := by decide +kernel
theorem dL_texts_438 : decode cL_texts 438 = .ok (.iconst 0, 1) := by decide +kernel
theorem dL_texts_439 : decode cL_texts 439 = .ok (.iconst 0, 1) := by decide +kernel
theorem dL_texts_440 : decode cL_texts 440 = .ok (.invokestatic 161, 3) := by decide +kernel
theorem dL_texts_443 : decode cL_texts 443 = .ok (.sipush (-2012), 3) := by decide +kernel
theorem dL_texts_446 : decode cL_texts 446 = .ok (.if_icmp .ne 16, 3) := by decide +kernel
theorem dL_texts_449 : decode cL_texts 449 = .ok (.aload_n 0, 1) := by decide +kernel
theorem dL_texts_450 : decode cL_texts 450 = .ok (.invokevirtual 219, 3) := by decide +kernel
theorem dL_texts_453 : decode cL_texts 453 = .ok (.bipush 60, 2) := by decide +kernel
theorem dL_texts_455 : decode cL_texts 455 = .ok (.if_icmp .ne 7, 3) := by decide +kernel
theorem dL_texts_458 : decode cL_texts 458 = .ok (.iconst 1, 1) := by decide +kernel
theorem dL_texts_459 : decode cL_texts 459 = .ok (.goto 4, 3) := by decide +kernel
theorem dL_texts_462 : decode cL_texts 462 = .ok (.iconst 0, 1) := by decide +kernel
theorem dL_texts_463 : decode cL_texts 463 = .ok (.ireturn, 1) := by decide +kernel
