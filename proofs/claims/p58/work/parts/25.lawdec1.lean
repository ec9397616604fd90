theorem dL_part_0 : decode cL_part 0 = .ok (.iload_n 0, 1) := by decide +kernel
theorem dL_part_1 : decode cL_part 1 = .ok (.ldc 7, 2) := by decide +kernel
theorem dL_part_3 : decode cL_part 3 = .ok (.iand, 1) := by decide +kernel
theorem dL_part_4 : decode cL_part 4 = .ok (.iload_n 1, 1) := by decide +kernel
theorem dL_part_5 : decode cL_part 5 = .ok (.irem, 1) := by decide +kernel
theorem dL_part_6 : decode cL_part 6 = .ok (.ireturn, 1) := by decide +kernel
theorem dL_far_0 : decode cL_far 0 = .ok (.iload_n 0, 1) := by decide +kernel
theorem dL_far_1 : decode cL_far 1 = .ok (.ifCond .ne 9, 3) := by decide +kernel
theorem dL_far_4 : decode cL_far 4 = .ok (.iload_n 1, 1) := by decide +kernel
theorem dL_far_5 : decode cL_far 5 = .ok (.iconst 1, 1) := by decide +kernel
theorem dL_far_6 : decode cL_far 6 = .ok (.isub, 1) := by decide +kernel
theorem dL_far_7 : decode cL_far 7 = .ok (.goto 26, 3) := by decide +kernel
theorem dL_far_10 : decode cL_far 10 = .ok (.iload_n 0, 1) := by decide +kernel
theorem dL_far_11 : decode cL_far 11 = .ok (.iconst 1, 1) := by decide +kernel
theorem dL_far_12 : decode cL_far 12 = .ok (.if_icmp .ne 9, 3) := by decide +kernel
theorem dL_far_15 : decode cL_far 15 = .ok (.iload_n 2, 1) := by decide +kernel
theorem dL_far_16 : decode cL_far 16 = .ok (.iconst 1, 1) := by decide +kernel
theorem dL_far_17 : decode cL_far 17 = .ok (.iadd, 1) := by decide +kernel
theorem dL_far_18 : decode cL_far 18 = .ok (.goto 15, 3) := by decide +kernel
theorem dL_far_21 : decode cL_far 21 = .ok (.iload_n 0, 1) := by decide +kernel
theorem dL_far_22 : decode cL_far 22 = .ok (.iconst 2, 1) := by decide +kernel
theorem dL_far_23 : decode cL_far 23 = .ok (.if_icmp .ne 8, 3) := by decide +kernel
theorem dL_far_26 : decode cL_far 26 = .ok (.ldc 164, 2) := by decide +kernel
theorem dL_far_28 : decode cL_far 28 = .ok (.goto 5, 3) := by decide +kernel
theorem dL_far_31 : decode cL_far 31 = .ok (.ldc 7, 2) := by decide +kernel
theorem dL_far_33 : decode cL_far 33 = .ok (.ireturn, 1) := by decide +kernel
theorem dL_act_0 : decode cL_act 0 = .ok (.iload_n 1, 1) := by decide +kernel
theorem dL_act_1 : decode cL_act 1 = .ok (.ifCond .ne 31, 3) := by decide +kernel
theorem dL_act_4 : decode cL_act 4 = .ok (.aload_n 0, 1) := by decide +kernel
theorem dL_act_5 : decode cL_act 5 = .ok (.iload_n 2, 1) := by decide +kernel
theorem dL_act_6 : decode cL_act 6 = .ok (.iload_n 3, 1) := by decide +kernel
theorem dL_act_7 : decode cL_act 7 = .ok (.iload 4, 2) := by decide +kernel
theorem dL_act_9 : decode cL_act 9 = .ok (.bipush 15, 2) := by decide +kernel
theorem dL_act_11 : decode cL_act 11 = .ok (.iand, 1) := by decide +kernel
theorem dL_act_12 : decode cL_act 12 = .ok (.iload 4, 2) := by decide +kernel
theorem dL_act_14 : decode cL_act 14 = .ok (.iconst 4, 1) := by decide +kernel
theorem dL_act_15 : decode cL_act 15 = .ok (.ishr, 1) := by decide +kernel
theorem dL_act_16 : decode cL_act 16 = .ok (.bipush 15, 2) := by decide +kernel
theorem dL_act_18 : decode cL_act 18 = .ok (.iand, 1) := by decide +kernel
theorem dL_act_19 : decode cL_act 19 = .ok (.iload 4, 2) := by decide +kernel
theorem dL_act_21 : decode cL_act 21 = .ok (.bipush 8, 2) := by decide +kernel
theorem dL_act_23 : decode cL_act 23 = .ok (.ishr, 1) := by decide +kernel
theorem dL_act_24 : decode cL_act 24 = .ok (.iload 5, 2) := by decide +kernel
theorem dL_act_26 : decode cL_act 26 = .ok (.invokevirtual 28, 3) := by decide +kernel
theorem dL_act_29 : decode cL_act 29 = .ok (.goto 144, 3) := by decide +kernel
theorem dL_act_32 : decode cL_act 32 = .ok (.iload_n 1, 1) := by decide +kernel
theorem dL_act_33 : decode cL_act 33 = .ok (.iconst 1, 1) := by decide +kernel
theorem dL_act_34 : decode cL_act 34 = .ok (.if_icmp .ne 11, 3) := by decide +kernel
theorem dL_act_37 : decode cL_act 37 = .ok (.aload_n 0, 1) := by decide +kernel
theorem dL_act_38 : decode cL_act 38 = .ok (.iload_n 2, 1) := by decide +kernel
theorem dL_act_39 : decode cL_act 39 = .ok (.invokevirtual 34, 3) := by decide +kernel
theorem dL_act_42 : decode cL_act 42 = .ok (.goto 131, 3) := by decide +kernel
theorem dL_act_45 : decode cL_act 45 = .ok (.iload_n 1, 1) := by decide +kernel
theorem dL_act_46 : decode cL_act 46 = .ok (.iconst 2, 1) := by decide +kernel
theorem dL_act_47 : decode cL_act 47 = .ok (.if_icmp .ne 12, 3) := by decide +kernel
theorem dL_act_50 : decode cL_act 50 = .ok (.aload_n 0, 1) := by decide +kernel
theorem dL_act_51 : decode cL_act 51 = .ok (.iload_n 2, 1) := by decide +kernel
theorem dL_act_52 : decode cL_act 52 = .ok (.iload_n 3, 1) := by decide +kernel
theorem dL_act_53 : decode cL_act 53 = .ok (.invokevirtual 38, 3) := by decide +kernel
theorem dL_act_56 : decode cL_act 56 = .ok (.goto 117, 3) := by decide +kernel
theorem dL_act_59 : decode cL_act 59 = .ok (.iload_n 1, 1) := by decide +kernel
theorem dL_act_60 : decode cL_act 60 = .ok (.iconst 3, 1) := by decide +kernel
theorem dL_act_61 : decode cL_act 61 = .ok (.if_icmp .ne 12, 3) := by decide +kernel
theorem dL_act_64 : decode cL_act 64 = .ok (.aload_n 0, 1) := by decide +kernel
theorem dL_act_65 : decode cL_act 65 = .ok (.iload_n 2, 1) := by decide +kernel
theorem dL_act_66 : decode cL_act 66 = .ok (.iload_n 3, 1) := by decide +kernel
theorem dL_act_67 : decode cL_act 67 = .ok (.invokevirtual 42, 3) := by decide +kernel
theorem dL_act_70 : decode cL_act 70 = .ok (.goto 103, 3) := by decide +kernel
theorem dL_act_73 : decode cL_act 73 = .ok (.iload_n 1, 1) := by decide +kernel
theorem dL_act_74 : decode cL_act 74 = .ok (.iconst 4, 1) := by decide +kernel
theorem dL_act_75 : decode cL_act 75 = .ok (.if_icmp .ne 12, 3) := by decide +kernel
theorem dL_act_78 : decode cL_act 78 = .ok (.aload_n 0, 1) := by decide +kernel
theorem dL_act_79 : decode cL_act 79 = .ok (.iload_n 2, 1) := by decide +kernel
theorem dL_act_80 : decode cL_act 80 = .ok (.iload_n 3, 1) := by decide +kernel
theorem dL_act_81 : decode cL_act 81 = .ok (.invokevirtual 45, 3) := by decide +kernel
theorem dL_act_84 : decode cL_act 84 = .ok (.goto 89, 3) := by decide +kernel
theorem dL_act_87 : decode cL_act 87 = .ok (.iload_n 1, 1) := by decide +kernel
theorem dL_act_88 : decode cL_act 88 = .ok (.iconst 5, 1) := by decide +kernel
theorem dL_act_89 : decode cL_act 89 = .ok (.if_icmp .ne 11, 3) := by decide +kernel
theorem dL_act_92 : decode cL_act 92 = .ok (.aload_n 0, 1) := by decide +kernel
theorem dL_act_93 : decode cL_act 93 = .ok (.iload_n 2, 1) := by decide +kernel
theorem dL_act_94 : decode cL_act 94 = .ok (.invokevirtual 48, 3) := by decide +kernel
theorem dL_act_97 : decode cL_act 97 = .ok (.goto 76, 3) := by decide +kernel
theorem dL_act_100 : decode cL_act 100 = .ok (.iload_n 1, 1) := by decide +kernel
theorem dL_act_101 : decode cL_act 101 = .ok (.bipush 6, 2) := by decide +kernel
theorem dL_act_103 : decode cL_act 103 = .ok (.if_icmp .ne 12, 3) := by decide +kernel
theorem dL_act_106 : decode cL_act 106 = .ok (.aload_n 0, 1) := by decide +kernel
theorem dL_act_107 : decode cL_act 107 = .ok (.iload_n 2, 1) := by decide +kernel
theorem dL_act_108 : decode cL_act 108 = .ok (.iload_n 3, 1) := by decide +kernel
theorem dL_act_109 : decode cL_act 109 = .ok (.invokevirtual 51, 3) := by decide +kernel
theorem dL_act_112 : decode cL_act 112 = .ok (.goto 61, 3) := by decide +kernel
theorem dL_act_115 : decode cL_act 115 = .ok (.iload_n 1, 1) := by decide +kernel
theorem dL_act_116 : decode cL_act 116 = .ok (.bipush 7, 2) := by decide +kernel
theorem dL_act_118 : decode cL_act 118 = .ok (.if_icmp .ne 11, 3) := by decide +kernel
theorem dL_act_121 : decode cL_act 121 = .ok (.aload_n 0, 1) := by decide +kernel
theorem dL_act_122 : decode cL_act 122 = .ok (.iload_n 2, 1) := by decide +kernel
theorem dL_act_123 : decode cL_act 123 = .ok (.invokevirtual 54, 3) := by decide +kernel
theorem dL_act_126 : decode cL_act 126 = .ok (.goto 47, 3) := by decide +kernel
theorem dL_act_129 : decode cL_act 129 = .ok (.iload_n 1, 1) := by decide +kernel
theorem dL_act_130 : decode cL_act 130 = .ok (.bipush 8, 2) := by decide +kernel
theorem dL_act_132 : decode cL_act 132 = .ok (.if_icmp .ne 11, 3) := by decide +kernel
theorem dL_act_135 : decode cL_act 135 = .ok (.aload_n 0, 1) := by decide +kernel
theorem dL_act_136 : decode cL_act 136 = .ok (.iload_n 2, 1) := by decide +kernel
theorem dL_act_137 : decode cL_act 137 = .ok (.invokevirtual 57, 3) := by decide +kernel
theorem dL_act_140 : decode cL_act 140 = .ok (.goto 33, 3) := by decide +kernel
theorem dL_act_143 : decode cL_act 143 = .ok (.iload_n 1, 1) := by decide +kernel
theorem dL_act_144 : decode cL_act 144 = .ok (.bipush 9, 2) := by decide +kernel
theorem dL_act_146 : decode cL_act 146 = .ok (.if_icmp .ne 10, 3) := by decide +kernel
theorem dL_act_149 : decode cL_act 149 = .ok (.aload_n 0, 1) := by decide +kernel
theorem dL_act_150 : decode cL_act 150 = .ok (.invokevirtual 60, 3) := by decide +kernel
theorem dL_act_153 : decode cL_act 153 = .ok (.goto 20, 3) := by decide +kernel
theorem dL_act_156 : decode cL_act 156 = .ok (.iload_n 1, 1) := by decide +kernel
theorem dL_act_157 : decode cL_act 157 = .ok (.bipush 10, 2) := by decide +kernel
theorem dL_act_159 : decode cL_act 159 = .ok (.if_icmp .ne 10, 3) := by decide +kernel
theorem dL_act_162 : decode cL_act 162 = .ok (.aload_n 0, 1) := by decide +kernel
theorem dL_act_163 : decode cL_act 163 = .ok (.invokevirtual 64, 3) := by decide +kernel
theorem dL_act_166 : decode cL_act 166 = .ok (.goto 7, 3) := by decide +kernel
theorem dL_act_169 : decode cL_act 169 = .ok (.aload_n 0, 1) := by decide +kernel
theorem dL_act_170 : decode cL_act 170 = .ok (.invokevirtual 67, 3) := by decide +kernel
theorem dL_act_173 : decode cL_act 173 = .ok (.ireturn, 1) := by decide +kernel
theorem dL_step_0 : decode cL_step 0 = .ok (.iload_n 1, 1) := by decide +kernel
theorem dL_step_1 : decode cL_step 1 = .ok (.bipush 12, 2) := by decide +kernel
theorem dL_step_3 : decode cL_step 3 = .ok (.if_icmp .ne 11, 3) := by decide +kernel
theorem dL_step_6 : decode cL_step 6 = .ok (.aload_n 0, 1) := by decide +kernel
theorem dL_step_7 : decode cL_step 7 = .ok (.iload_n 2, 1) := by decide +kernel
theorem dL_step_8 : decode cL_step 8 = .ok (.invokevirtual 70, 3) := by decide +kernel
theorem dL_step_11 : decode cL_step 11 = .ok (.goto 178, 3) := by decide +kernel
theorem dL_step_14 : decode cL_step 14 = .ok (.iload_n 1, 1) := by decide +kernel
theorem dL_step_15 : decode cL_step 15 = .ok (.bipush 13, 2) := by decide +kernel
theorem dL_step_17 : decode cL_step 17 = .ok (.if_icmp .ne 11, 3) := by decide +kernel
theorem dL_step_20 : decode cL_step 20 = .ok (.aload_n 0, 1) := by decide +kernel
theorem dL_step_21 : decode cL_step 21 = .ok (.iload_n 2, 1) := by decide +kernel
theorem dL_step_22 : decode cL_step 22 = .ok (.invokevirtual 73, 3) := by decide +kernel
theorem dL_step_25 : decode cL_step 25 = .ok (.goto 164, 3) := by decide +kernel
theorem dL_step_28 : decode cL_step 28 = .ok (.iload_n 1, 1) := by decide +kernel
theorem dL_step_29 : decode cL_step 29 = .ok (.bipush 14, 2) := by decide +kernel
theorem dL_step_31 : decode cL_step 31 = .ok (.if_icmp .ne 11, 3) := by decide +kernel
theorem dL_step_34 : decode cL_step 34 = .ok (.aload_n 0, 1) := by decide +kernel
theorem dL_step_35 : decode cL_step 35 = .ok (.iload_n 2, 1) := by decide +kernel
theorem dL_step_36 : decode cL_step 36 = .ok (.invokevirtual 76, 3) := by decide +kernel
theorem dL_step_39 : decode cL_step 39 = .ok (.goto 150, 3) := by decide +kernel
theorem dL_step_42 : decode cL_step 42 = .ok (.iload_n 1, 1) := by decide +kernel
theorem dL_step_43 : decode cL_step 43 = .ok (.bipush 15, 2) := by decide +kernel
theorem dL_step_45 : decode cL_step 45 = .ok (.if_icmp .ne 11, 3) := by decide +kernel
theorem dL_step_48 : decode cL_step 48 = .ok (.aload_n 0, 1) := by decide +kernel
theorem dL_step_49 : decode cL_step 49 = .ok (.iload_n 2, 1) := by decide +kernel
theorem dL_step_50 : decode cL_step 50 = .ok (.invokevirtual 79, 3) := by decide +kernel
theorem dL_step_53 : decode cL_step 53 = .ok (.goto 136, 3) := by decide +kernel
theorem dL_step_56 : decode cL_step 56 = .ok (.iload_n 1, 1) := by decide +kernel
theorem dL_step_57 : decode cL_step 57 = .ok (.bipush 16, 2) := by decide +kernel
theorem dL_step_59 : decode cL_step 59 = .ok (.if_icmp .ne 11, 3) := by decide +kernel
theorem dL_step_62 : decode cL_step 62 = .ok (.aload_n 0, 1) := by decide +kernel
theorem dL_step_63 : decode cL_step 63 = .ok (.iload_n 2, 1) := by decide +kernel
theorem dL_step_64 : decode cL_step 64 = .ok (.invokevirtual 82, 3) := by decide +kernel
theorem dL_step_67 : decode cL_step 67 = .ok (.goto 122, 3) := by decide +kernel
theorem dL_step_70 : decode cL_step 70 = .ok (.iload_n 1, 1) := by decide +kernel
theorem dL_step_71 : decode cL_step 71 = .ok (.bipush 17, 2) := by decide +kernel
theorem dL_step_73 : decode cL_step 73 = .ok (.if_icmp .ne 11, 3) := by decide +kernel
theorem dL_step_76 : decode cL_step 76 = .ok (.aload_n 0, 1) := by decide +kernel
theorem dL_step_77 : decode cL_step 77 = .ok (.iload_n 2, 1) := by decide +kernel
theorem dL_step_78 : decode cL_step 78 = .ok (.invokevirtual 85, 3) := by decide +kernel
theorem dL_step_81 : decode cL_step 81 = .ok (.goto 108, 3) := by decide +kernel
theorem dL_step_84 : decode cL_step 84 = .ok (.iload_n 1, 1) := by decide +kernel
theorem dL_step_85 : decode cL_step 85 = .ok (.bipush 18, 2) := by decide +kernel
theorem dL_step_87 : decode cL_step 87 = .ok (.if_icmp .ne 11, 3) := by decide +kernel
theorem dL_step_90 : decode cL_step 90 = .ok (.aload_n 0, 1) := by decide +kernel
theorem dL_step_91 : decode cL_step 91 = .ok (.iload_n 2, 1) := by decide +kernel
theorem dL_step_92 : decode cL_step 92 = .ok (.invokevirtual 88, 3) := by decide +kernel
theorem dL_step_95 : decode cL_step 95 = .ok (.goto 94, 3) := by decide +kernel
theorem dL_step_98 : decode cL_step 98 = .ok (.iload_n 1, 1) := by decide +kernel
theorem dL_step_99 : decode cL_step 99 = .ok (.bipush 19, 2) := by decide +kernel
theorem dL_step_101 : decode cL_step 101 = .ok (.if_icmp .ne 11, 3) := by decide +kernel
theorem dL_step_104 : decode cL_step 104 = .ok (.aload_n 0, 1) := by decide +kernel
theorem dL_step_105 : decode cL_step 105 = .ok (.iload_n 2, 1) := by decide +kernel
theorem dL_step_106 : decode cL_step 106 = .ok (.invokevirtual 91, 3) := by decide +kernel
theorem dL_step_109 : decode cL_step 109 = .ok (.goto 80, 3) := by decide +kernel
theorem dL_step_112 : decode cL_step 112 = .ok (.iload_n 1, 1) := by decide +kernel
theorem dL_step_113 : decode cL_step 113 = .ok (.bipush 20, 2) := by decide +kernel
theorem dL_step_115 : decode cL_step 115 = .ok (.if_icmp .ne 12, 3) := by decide +kernel
theorem dL_step_118 : decode cL_step 118 = .ok (.aload_n 0, 1) := by decide +kernel
theorem dL_step_119 : decode cL_step 119 = .ok (.iload_n 2, 1) := by decide +kernel
theorem dL_step_120 : decode cL_step 120 = .ok (.iload_n 3, 1) := by decide +kernel
theorem dL_step_121 : decode cL_step 121 = .ok (.invokevirtual 94, 3) := by decide +kernel
theorem dL_step_124 : decode cL_step 124 = .ok (.goto 65, 3) := by decide +kernel
theorem dL_step_127 : decode cL_step 127 = .ok (.iload_n 1, 1) := by decide +kernel
theorem dL_step_128 : decode cL_step 128 = .ok (.bipush 21, 2) := by decide +kernel
theorem dL_step_130 : decode cL_step 130 = .ok (.if_icmp .ne 12, 3) := by decide +kernel
theorem dL_step_133 : decode cL_step 133 = .ok (.aload_n 0, 1) := by decide +kernel
theorem dL_step_134 : decode cL_step 134 = .ok (.iload_n 2, 1) := by decide +kernel
theorem dL_step_135 : decode cL_step 135 = .ok (.iload_n 3, 1) := by decide +kernel
theorem dL_step_136 : decode cL_step 136 = .ok (.invokevirtual 97, 3) := by decide +kernel
theorem dL_step_139 : decode cL_step 139 = .ok (.goto 50, 3) := by decide +kernel
theorem dL_step_142 : decode cL_step 142 = .ok (.iload_n 1, 1) := by decide +kernel
theorem dL_step_143 : decode cL_step 143 = .ok (.bipush 22, 2) := by decide +kernel
theorem dL_step_145 : decode cL_step 145 = .ok (.if_icmp .ne 11, 3) := by decide +kernel
theorem dL_step_148 : decode cL_step 148 = .ok (.aload_n 0, 1) := by decide +kernel
theorem dL_step_149 : decode cL_step 149 = .ok (.iload_n 2, 1) := by decide +kernel
theorem dL_step_150 : decode cL_step 150 = .ok (.invokevirtual 100, 3) := by decide +kernel
theorem dL_step_153 : decode cL_step 153 = .ok (.goto 36, 3) := by decide +kernel
theorem dL_step_156 : decode cL_step 156 = .ok (.iload_n 1, 1) := by decide +kernel
theorem dL_step_157 : decode cL_step 157 = .ok (.bipush 23, 2) := by decide +kernel
theorem dL_step_159 : decode cL_step 159 = .ok (.if_icmp .ne 11, 3) := by decide +kernel
theorem dL_step_162 : decode cL_step 162 = .ok (.aload_n 0, 1) := by decide +kernel
theorem dL_step_163 : decode cL_step 163 = .ok (.iload_n 2, 1) := by decide +kernel
theorem dL_step_164 : decode cL_step 164 = .ok (.invokevirtual 103, 3) := by decide +kernel
theorem dL_step_167 : decode cL_step 167 = .ok (.goto 22, 3) := by decide +kernel
theorem dL_step_170 : decode cL_step 170 = .ok (.iload_n 1, 1) := by decide +kernel
theorem dL_step_171 : decode cL_step 171 = .ok (.bipush 24, 2) := by decide +kernel
theorem dL_step_173 : decode cL_step 173 = .ok (.if_icmp .ne 11, 3) := by decide +kernel
theorem dL_step_176 : decode cL_step 176 = .ok (.aload_n 0, 1) := by decide +kernel
theorem dL_step_177 : decode cL_step 177 = .ok (.iload_n 2, 1) := by decide +kernel
theorem dL_step_178 : decode cL_step 178 = .ok (.invokevirtual 106, 3) := by decide +kernel
theorem dL_step_181 : decode cL_step 181 = .ok (.goto 8, 3) := by decide +kernel
theorem dL_step_184 : decode cL_step 184 = .ok (.aload_n 0, 1) := by decide +kernel
theorem dL_step_185 : decode cL_step 185 = .ok (.iload_n 2, 1) := by decide +kernel
theorem dL_step_186 : decode cL_step 186 = .ok (.invokevirtual 109, 3) := by decide +kernel
theorem dL_step_189 : decode cL_step 189 = .ok (.ireturn, 1) := by decide +kernel
theorem dL_rest_0 : decode cL_rest 0 = .ok (.iload_n 1, 1) := by decide +kernel
theorem dL_rest_1 : decode cL_rest 1 = .ok (.bipush 26, 2) := by decide +kernel
theorem dL_rest_3 : decode cL_rest 3 = .ok (.if_icmp .ne 12, 3) := by decide +kernel
theorem dL_rest_6 : decode cL_rest 6 = .ok (.aload_n 0, 1) := by decide +kernel
theorem dL_rest_7 : decode cL_rest 7 = .ok (.iload_n 2, 1) := by decide +kernel
theorem dL_rest_8 : decode cL_rest 8 = .ok (.iload_n 3, 1) := by decide +kernel
theorem dL_rest_9 : decode cL_rest 9 = .ok (.invokevirtual 112, 3) := by decide +kernel
theorem dL_rest_12 : decode cL_rest 12 = .ok (.goto 97, 3) := by decide +kernel
theorem dL_rest_15 : decode cL_rest 15 = .ok (.iload_n 1, 1) := by decide +kernel
theorem dL_rest_16 : decode cL_rest 16 = .ok (.bipush 27, 2) := by decide +kernel
theorem dL_rest_18 : decode cL_rest 18 = .ok (.if_icmp .ne 12, 3) := by decide +kernel
theorem dL_rest_21 : decode cL_rest 21 = .ok (.aload_n 0, 1) := by decide +kernel
theorem dL_rest_22 : decode cL_rest 22 = .ok (.iload_n 2, 1) := by decide +kernel
theorem dL_rest_23 : decode cL_rest 23 = .ok (.iload_n 3, 1) := by decide +kernel
theorem dL_rest_24 : decode cL_rest 24 = .ok (.invokevirtual 115, 3) := by decide +kernel
theorem dL_rest_27 : decode cL_rest 27 = .ok (.goto 82, 3) := by decide +kernel
theorem dL_rest_30 : decode cL_rest 30 = .ok (.iload_n 1, 1) := by decide +kernel
theorem dL_rest_31 : decode cL_rest 31 = .ok (.bipush 28, 2) := by decide +kernel
theorem dL_rest_33 : decode cL_rest 33 = .ok (.if_icmp .ne 12, 3) := by decide +kernel
theorem dL_rest_36 : decode cL_rest 36 = .ok (.aload_n 0, 1) := by decide +kernel
theorem dL_rest_37 : decode cL_rest 37 = .ok (.iload_n 2, 1) := by decide +kernel
theorem dL_rest_38 : decode cL_rest 38 = .ok (.iload_n 3, 1) := by decide +kernel
theorem dL_rest_39 : decode cL_rest 39 = .ok (.invokevirtual 118, 3) := by decide +kernel
theorem dL_rest_42 : decode cL_rest 42 = .ok (.goto 67, 3) := by decide +kernel
theorem dL_rest_45 : decode cL_rest 45 = .ok (.iload_n 1, 1) := by decide +kernel
theorem dL_rest_46 : decode cL_rest 46 = .ok (.bipush 29, 2) := by decide +kernel
theorem dL_rest_48 : decode cL_rest 48 = .ok (.if_icmp .ne 12, 3) := by decide +kernel
theorem dL_rest_51 : decode cL_rest 51 = .ok (.aload_n 0, 1) := by decide +kernel
theorem dL_rest_52 : decode cL_rest 52 = .ok (.iload_n 2, 1) := by decide +kernel
theorem dL_rest_53 : decode cL_rest 53 = .ok (.iload_n 3, 1) := by decide +kernel
theorem dL_rest_54 : decode cL_rest 54 = .ok (.invokevirtual 121, 3) := by decide +kernel
theorem dL_rest_57 : decode cL_rest 57 = .ok (.goto 52, 3) := by decide +kernel
theorem dL_rest_60 : decode cL_rest 60 = .ok (.iload_n 1, 1) := by decide +kernel
theorem dL_rest_61 : decode cL_rest 61 = .ok (.bipush 30, 2) := by decide +kernel
theorem dL_rest_63 : decode cL_rest 63 = .ok (.if_icmp .ne 11, 3) := by decide +kernel
theorem dL_rest_66 : decode cL_rest 66 = .ok (.aload_n 0, 1) := by decide +kernel
theorem dL_rest_67 : decode cL_rest 67 = .ok (.iload_n 2, 1) := by decide +kernel
theorem dL_rest_68 : decode cL_rest 68 = .ok (.invokevirtual 124, 3) := by decide +kernel
theorem dL_rest_71 : decode cL_rest 71 = .ok (.goto 38, 3) := by decide +kernel
theorem dL_rest_74 : decode cL_rest 74 = .ok (.iload_n 1, 1) := by decide +kernel
theorem dL_rest_75 : decode cL_rest 75 = .ok (.bipush 31, 2) := by decide +kernel
theorem dL_rest_77 : decode cL_rest 77 = .ok (.if_icmp .ne 11, 3) := by decide +kernel
theorem dL_rest_80 : decode cL_rest 80 = .ok (.aload_n 0, 1) := by decide +kernel
theorem dL_rest_81 : decode cL_rest 81 = .ok (.iload_n 2, 1) := by decide +kernel
theorem dL_rest_82 : decode cL_rest 82 = .ok (.invokevirtual 127, 3) := by decide +kernel
theorem dL_rest_85 : decode cL_rest 85 = .ok (.goto 24, 3) := by decide +kernel
theorem dL_rest_88 : decode cL_rest 88 = .ok (.iload_n 1, 1) := by decide +kernel
theorem dL_rest_89 : decode cL_rest 89 = .ok (.bipush 32, 2) := by decide +kernel
theorem dL_rest_91 : decode cL_rest 91 = .ok (.if_icmp .ne 12, 3) := by decide +kernel
theorem dL_rest_94 : decode cL_rest 94 = .ok (.aload_n 0, 1) := by decide +kernel
theorem dL_rest_95 : decode cL_rest 95 = .ok (.iload_n 2, 1) := by decide +kernel
theorem dL_rest_96 : decode cL_rest 96 = .ok (.iload_n 3, 1) := by decide +kernel
theorem dL_rest_97 : decode cL_rest 97 = .ok (.invokevirtual 130, 3) := by decide +kernel
theorem dL_rest_100 : decode cL_rest 100 = .ok (.goto 9, 3) := by decide +kernel
theorem dL_rest_103 : decode cL_rest 103 = .ok (.aload_n 0, 1) := by decide +kernel
theorem dL_rest_104 : decode cL_rest 104 = .ok (.iload_n 2, 1) := by decide +kernel
theorem dL_rest_105 : decode cL_rest 105 = .ok (.iload_n 3, 1) := by decide +kernel
theorem dL_rest_106 : decode cL_rest 106 = .ok (.invokevirtual 133, 3) := by decide +kernel
theorem dL_rest_109 : decode cL_rest 109 = .ok (.ireturn, 1) := by decide +kernel
theorem dL_call_0 : decode cL_call 0 = .ok (.iload_n 1, 1) := by decide +kernel
theorem dL_call_1 : decode cL_call 1 = .ok (.bipush 12, 2) := by decide +kernel
theorem dL_call_3 : decode cL_call 3 = .ok (.if_icmp .ge 17, 3) := by decide +kernel
theorem dL_call_6 : decode cL_call 6 = .ok (.aload_n 0, 1) := by decide +kernel
theorem dL_call_7 : decode cL_call 7 = .ok (.iload_n 1, 1) := by decide +kernel
theorem dL_call_8 : decode cL_call 8 = .ok (.iload_n 2, 1) := by decide +kernel
theorem dL_call_9 : decode cL_call 9 = .ok (.iload_n 3, 1) := by decide +kernel
theorem dL_call_10 : decode cL_call 10 = .ok (.iload 4, 2) := by decide +kernel
theorem dL_call_12 : decode cL_call 12 = .ok (.iload 5, 2) := by decide +kernel
theorem dL_call_14 : decode cL_call 14 = .ok (.invokestatic 9, 3) := by decide +kernel
theorem dL_call_17 : decode cL_call 17 = .ok (.goto 26, 3) := by decide +kernel
theorem dL_call_20 : decode cL_call 20 = .ok (.iload_n 1, 1) := by decide +kernel
theorem dL_call_21 : decode cL_call 21 = .ok (.bipush 26, 2) := by decide +kernel
theorem dL_call_23 : decode cL_call 23 = .ok (.if_icmp .ge 13, 3) := by decide +kernel
theorem dL_call_26 : decode cL_call 26 = .ok (.aload_n 0, 1) := by decide +kernel
theorem dL_call_27 : decode cL_call 27 = .ok (.iload_n 1, 1) := by decide +kernel
theorem dL_call_28 : decode cL_call 28 = .ok (.iload_n 2, 1) := by decide +kernel
theorem dL_call_29 : decode cL_call 29 = .ok (.iload_n 3, 1) := by decide +kernel
theorem dL_call_30 : decode cL_call 30 = .ok (.invokestatic 15, 3) := by decide +kernel
theorem dL_call_33 : decode cL_call 33 = .ok (.goto 10, 3) := by decide +kernel
theorem dL_call_36 : decode cL_call 36 = .ok (.aload_n 0, 1) := by decide +kernel
theorem dL_call_37 : decode cL_call 37 = .ok (.iload_n 1, 1) := by decide +kernel
theorem dL_call_38 : decode cL_call 38 = .ok (.iload_n 2, 1) := by decide +kernel
theorem dL_call_39 : decode cL_call 39 = .ok (.iload_n 3, 1) := by decide +kernel
theorem dL_call_40 : decode cL_call 40 = .ok (.invokestatic 19, 3) := by decide +kernel
theorem dL_call_43 : decode cL_call 43 = .ok (.ireturn, 1) := by decide +kernel
theorem dL_call_44 : decode cL_call 44 = .ok (.astore 6, 2) := by decide +kernel
theorem dL_call_46 : decode cL_call 46 = .ok (.sipush (-2011), 3) := by decide +kernel
theorem dL_call_49 : decode cL_call 49 = .ok (.ireturn, 1) := by decide +kernel
theorem dL_call_50 : decode cL_call 50 = .ok (.astore 6, 2) := by decide +kernel
theorem dL_call_52 : decode cL_call 52 = .ok (.sipush (-2012), 3) := by decide +kernel
theorem dL_call_55 : decode cL_call 55 = .ok (.ireturn, 1) := by decide +kernel
theorem dL_call_56 : decode cL_call 56 = .ok (.astore 6, 2) := by decide +kernel
theorem dL_call_58 : decode cL_call 58 = .ok (.sipush (-2013), 3) := by decide +kernel
theorem dL_call_61 : decode cL_call 61 = .ok (.ireturn, 1) := by decide +kernel
theorem dL_seen_0 : decode cL_seen 0 = .ok (.ldc2_w 136, 3) := by decide +kernel
theorem dL_seen_3 : decode cL_seen 3 = .ok (.lstore_n 1, 1) := by decide +kernel
theorem dL_seen_4 : decode cL_seen 4 = .ok (.ldc2_w 138, 3) := by decide +kernel
theorem dL_seen_7 : decode cL_seen 7 = .ok (.ldc2_w 138, 3) := by decide +kernel
theorem dL_seen_10 : decode cL_seen 10 = .ok (.ldc2_w 138, 3) := by decide +kernel
theorem dL_seen_13 : decode cL_seen 13 = .ok (.ldc2_w 138, 3) := by decide +kernel
theorem dL_seen_16 : decode cL_seen 16 = .ok (.lload_n 1, 1) := by decide +kernel
theorem dL_seen_17 : decode cL_seen 17 = .ok (.lmul, 1) := by decide +kernel
theorem dL_seen_18 : decode cL_seen 18 = .ok (.aload_n 0, 1) := by decide +kernel
theorem dL_seen_19 : decode cL_seen 19 = .ok (.invokevirtual 140, 3) := by decide +kernel
theorem dL_seen_22 : decode cL_seen 22 = .ok (.i2l, 1) := by decide +kernel
theorem dL_seen_23 : decode cL_seen 23 = .ok (.ladd, 1) := by decide +kernel
theorem dL_seen_24 : decode cL_seen 24 = .ok (.lmul, 1) := by decide +kernel
theorem dL_seen_25 : decode cL_seen 25 = .ok (.aload_n 0, 1) := by decide +kernel
theorem dL_seen_26 : decode cL_seen 26 = .ok (.invokevirtual 143, 3) := by decide +kernel
theorem dL_seen_29 : decode cL_seen 29 = .ok (.i2l, 1) := by decide +kernel
theorem dL_seen_30 : decode cL_seen 30 = .ok (.ladd, 1) := by decide +kernel
theorem dL_seen_31 : decode cL_seen 31 = .ok (.lmul, 1) := by decide +kernel
theorem dL_seen_32 : decode cL_seen 32 = .ok (.aload_n 0, 1) := by decide +kernel
theorem dL_seen_33 : decode cL_seen 33 = .ok (.invokevirtual 146, 3) := by decide +kernel
theorem dL_seen_36 : decode cL_seen 36 = .ok (.i2l, 1) := by decide +kernel
theorem dL_seen_37 : decode cL_seen 37 = .ok (.ladd, 1) := by decide +kernel
theorem dL_seen_38 : decode cL_seen 38 = .ok (.lmul, 1) := by decide +kernel
theorem dL_seen_39 : decode cL_seen 39 = .ok (.aload_n 0, 1) := by decide +kernel
theorem dL_seen_40 : decode cL_seen 40 = .ok (.invokevirtual 149, 3) := by decide +kernel
theorem dL_seen_43 : decode cL_seen 43 = .ok (.i2l, 1) := by decide +kernel
theorem dL_seen_44 : decode cL_seen 44 = .ok (.ladd, 1) := by decide +kernel
theorem dL_seen_45 : decode cL_seen 45 = .ok (.lstore_n 1, 1) := by decide +kernel
theorem dL_seen_46 : decode cL_seen 46 = .ok (.ldc2_w 138, 3) := by decide +kernel
theorem dL_seen_49 : decode cL_seen 49 = .ok (.ldc2_w 138, 3) := by decide +kernel
theorem dL_seen_52 : decode cL_seen 52 = .ok (.ldc2_w 138, 3) := by decide +kernel
theorem dL_seen_55 : decode cL_seen 55 = .ok (.lload_n 1, 1) := by decide +kernel
theorem dL_seen_56 : decode cL_seen 56 = .ok (.lmul, 1) := by decide +kernel
theorem dL_seen_57 : decode cL_seen 57 = .ok (.aload_n 0, 1) := by decide +kernel
theorem dL_seen_58 : decode cL_seen 58 = .ok (.invokevirtual 152, 3) := by decide +kernel
theorem dL_seen_61 : decode cL_seen 61 = .ok (.i2l, 1) := by decide +kernel
theorem dL_seen_62 : decode cL_seen 62 = .ok (.ladd, 1) := by decide +kernel
theorem dL_seen_63 : decode cL_seen 63 = .ok (.lmul, 1) := by decide +kernel
theorem dL_seen_64 : decode cL_seen 64 = .ok (.aload_n 0, 1) := by decide +kernel
theorem dL_seen_65 : decode cL_seen 65 = .ok (.invokevirtual 155, 3) := by decide +kernel
theorem dL_seen_68 : decode cL_seen 68 = .ok (.i2l, 1) := by decide +kernel
theorem dL_seen_69 : decode cL_seen 69 = .ok (.ladd, 1) := by decide +kernel
theorem dL_seen_70 : decode cL_seen 70 = .ok (.lmul, 1) := by decide +kernel
theorem dL_seen_71 : decode cL_seen 71 = .ok (.aload_n 0, 1) := by decide +kernel
theorem dL_seen_72 : decode cL_seen 72 = .ok (.invokevirtual 158, 3) := by decide +kernel
theorem dL_seen_75 : decode cL_seen 75 = .ok (.i2l, 1) := by decide +kernel
theorem dL_seen_76 : decode cL_seen 76 = .ok (.ladd, 1) := by decide +kernel
theorem dL_seen_77 : decode cL_seen 77 = .ok (.lstore_n 1, 1) := by decide +kernel
theorem dL_seen_78 : decode cL_seen 78 = .ok (.iconst 0, 1) := by decide +kernel
theorem dL_seen_79 : decode cL_seen 79 = .ok (.istore_n 3, 1) := by decide +kernel
theorem dL_seen_80 : decode cL_seen 80 = .ok (.iload_n 3, 1) := by decide +kernel
theorem dL_seen_81 : decode cL_seen 81 = .ok (.aload_n 0, 1) := by decide +kernel
theorem dL_seen_82 : decode cL_seen 82 = .ok (.invokevirtual 140, 3) := by decide +kernel
theorem dL_seen_85 : decode cL_seen 85 = .ok (.if_icmp .ge 90, 3) := by decide +kernel
theorem dL_seen_88 : decode cL_seen 88 = .ok (.bipush 12, 2) := by decide +kernel
theorem dL_seen_90 : decode cL_seen 90 = .ok (.istore 4, 2) := by decide +kernel
theorem dL_seen_92 : decode cL_seen 92 = .ok (.iload 4, 2) := by decide +kernel
theorem dL_seen_94 : decode cL_seen 94 = .ok (.bipush 19, 2) := by decide +kernel
theorem dL_seen_96 : decode cL_seen 96 = .ok (.if_icmp .ge 27, 3) := by decide +kernel
theorem dL_seen_99 : decode cL_seen 99 = .ok (.ldc2_w 138, 3) := by decide +kernel
theorem dL_seen_102 : decode cL_seen 102 = .ok (.lload_n 1, 1) := by decide +kernel
theorem dL_seen_103 : decode cL_seen 103 = .ok (.lmul, 1) := by decide +kernel
theorem dL_seen_104 : decode cL_seen 104 = .ok (.aload_n 0, 1) := by decide +kernel
theorem dL_seen_105 : decode cL_seen 105 = .ok (.iload 4, 2) := by decide +kernel
theorem dL_seen_107 : decode cL_seen 107 = .ok (.iload_n 3, 1) := by decide +kernel
theorem dL_seen_108 : decode cL_seen 108 = .ok (.iconst 0, 1) := by decide +kernel
theorem dL_seen_109 : decode cL_seen 109 = .ok (.iconst 0, 1) := by decide +kernel
theorem dL_seen_110 : decode cL_seen 110 = .ok (.iconst 0, 1) := by decide +kernel
theorem dL_seen_111 : decode cL_seen 111 = .ok (.invokestatic 161, 3) := by decide +kernel
theorem dL_seen_114 : decode cL_seen 114 = .ok (.i2l, 1) := by decide +kernel
theorem dL_seen_115 : decode cL_seen 115 = .ok (.ladd, 1) := by decide +kernel
theorem dL_seen_116 : decode cL_seen 116 = .ok (.lstore_n 1, 1) := by decide +kernel
theorem dL_seen_117 : decode cL_seen 117 = .ok (.iinc 4 1, 3) := by decide +kernel
theorem dL_seen_120 : decode cL_seen 120 = .ok (.goto (-28), 3) := by decide +kernel
theorem dL_seen_123 : decode cL_seen 123 = .ok (.iconst 0, 1) := by decide +kernel
theorem dL_seen_124 : decode cL_seen 124 = .ok (.istore 4, 2) := by decide +kernel
theorem dL_seen_126 : decode cL_seen 126 = .ok (.iload 4, 2) := by decide +kernel
theorem dL_seen_128 : decode cL_seen 128 = .ok (.aload_n 0, 1) := by decide +kernel
theorem dL_seen_129 : decode cL_seen 129 = .ok (.invokevirtual 140, 3) := by decide +kernel
theorem dL_seen_132 : decode cL_seen 132 = .ok (.if_icmp .ge 37, 3) := by decide +kernel
theorem dL_seen_135 : decode cL_seen 135 = .ok (.ldc2_w 138, 3) := by decide +kernel
theorem dL_seen_138 : decode cL_seen 138 = .ok (.ldc2_w 138, 3) := by decide +kernel
theorem dL_seen_141 : decode cL_seen 141 = .ok (.lload_n 1, 1) := by decide +kernel
theorem dL_seen_142 : decode cL_seen 142 = .ok (.lmul, 1) := by decide +kernel
theorem dL_seen_143 : decode cL_seen 143 = .ok (.aload_n 0, 1) := by decide +kernel
theorem dL_seen_144 : decode cL_seen 144 = .ok (.iload_n 3, 1) := by decide +kernel
theorem dL_seen_145 : decode cL_seen 145 = .ok (.iload 4, 2) := by decide +kernel
theorem dL_seen_147 : decode cL_seen 147 = .ok (.invokevirtual 94, 3) := by decide +kernel
theorem dL_seen_150 : decode cL_seen 150 = .ok (.i2l, 1) := by decide +kernel
theorem dL_seen_151 : decode cL_seen 151 = .ok (.ladd, 1) := by decide +kernel
theorem dL_seen_152 : decode cL_seen 152 = .ok (.lmul, 1) := by decide +kernel
theorem dL_seen_153 : decode cL_seen 153 = .ok (.aload_n 0, 1) := by decide +kernel
theorem dL_seen_154 : decode cL_seen 154 = .ok (.iload_n 3, 1) := by decide +kernel
theorem dL_seen_155 : decode cL_seen 155 = .ok (.iload 4, 2) := by decide +kernel
theorem dL_seen_157 : decode cL_seen 157 = .ok (.invokevirtual 97, 3) := by decide +kernel
theorem dL_seen_160 : decode cL_seen 160 = .ok (.i2l, 1) := by decide +kernel
theorem dL_seen_161 : decode cL_seen 161 = .ok (.ladd, 1) := by decide +kernel
theorem dL_seen_162 : decode cL_seen 162 = .ok (.lstore_n 1, 1) := by decide +kernel
theorem dL_seen_163 : decode cL_seen 163 = .ok (.iinc 4 1, 3) := by decide +kernel
theorem dL_seen_166 : decode cL_seen 166 = .ok (.goto (-40), 3) := by decide +kernel
theorem dL_seen_169 : decode cL_seen 169 = .ok (.iinc 3 1, 3) := by decide +kernel
theorem dL_seen_172 : decode cL_seen 172 = .ok (.goto (-92), 3) := by decide +kernel
theorem dL_seen_175 : decode cL_seen 175 = .ok (.iconst 0, 1) := by decide +kernel
theorem dL_seen_176 : decode cL_seen 176 = .ok (.istore_n 3, 1) := by decide +kernel
theorem dL_seen_177 : decode cL_seen 177 = .ok (.iload_n 3, 1) := by decide +kernel
theorem dL_seen_178 : decode cL_seen 178 = .ok (.bipush 12, 2) := by decide +kernel
theorem dL_seen_180 : decode cL_seen 180 = .ok (.if_icmp .ge 44, 3) := by decide +kernel
theorem dL_seen_183 : decode cL_seen 183 = .ok (.ldc2_w 138, 3) := by decide +kernel
theorem dL_seen_186 : decode cL_seen 186 = .ok (.ldc2_w 138, 3) := by decide +kernel
theorem dL_seen_189 : decode cL_seen 189 = .ok (.ldc2_w 138, 3) := by decide +kernel
theorem dL_seen_192 : decode cL_seen 192 = .ok (.lload_n 1, 1) := by decide +kernel
theorem dL_seen_193 : decode cL_seen 193 = .ok (.lmul, 1) := by decide +kernel
theorem dL_seen_194 : decode cL_seen 194 = .ok (.aload_n 0, 1) := by decide +kernel
theorem dL_seen_195 : decode cL_seen 195 = .ok (.iload_n 3, 1) := by decide +kernel
theorem dL_seen_196 : decode cL_seen 196 = .ok (.invokevirtual 100, 3) := by decide +kernel
theorem dL_seen_199 : decode cL_seen 199 = .ok (.i2l, 1) := by decide +kernel
theorem dL_seen_200 : decode cL_seen 200 = .ok (.ladd, 1) := by decide +kernel
theorem dL_seen_201 : decode cL_seen 201 = .ok (.lmul, 1) := by decide +kernel
theorem dL_seen_202 : decode cL_seen 202 = .ok (.aload_n 0, 1) := by decide +kernel
theorem dL_seen_203 : decode cL_seen 203 = .ok (.iload_n 3, 1) := by decide +kernel
theorem dL_seen_204 : decode cL_seen 204 = .ok (.invokevirtual 106, 3) := by decide +kernel
theorem dL_seen_207 : decode cL_seen 207 = .ok (.i2l, 1) := by decide +kernel
theorem dL_seen_208 : decode cL_seen 208 = .ok (.ladd, 1) := by decide +kernel
theorem dL_seen_209 : decode cL_seen 209 = .ok (.lmul, 1) := by decide +kernel
theorem dL_seen_210 : decode cL_seen 210 = .ok (.aload_n 0, 1) := by decide +kernel
theorem dL_seen_211 : decode cL_seen 211 = .ok (.iload_n 3, 1) := by decide +kernel
theorem dL_seen_212 : decode cL_seen 212 = .ok (.invokevirtual 103, 3) := by decide +kernel
theorem dL_seen_215 : decode cL_seen 215 = .ok (.i2l, 1) := by decide +kernel
theorem dL_seen_216 : decode cL_seen 216 = .ok (.ladd, 1) := by decide +kernel
theorem dL_seen_217 : decode cL_seen 217 = .ok (.lstore_n 1, 1) := by decide +kernel
theorem dL_seen_218 : decode cL_seen 218 = .ok (.iinc 3 1, 3) := by decide +kernel
theorem dL_seen_221 : decode cL_seen 221 = .ok (.goto (-44), 3) := by decide +kernel
theorem dL_seen_224 : decode cL_seen 224 = .ok (.lload_n 1, 1) := by decide +kernel
theorem dL_seen_225 : decode cL_seen 225 = .ok (.lreturn, 1) := by decide +kernel
theorem dL_refused_0 : decode cL_refused 0 = .ok (.aload_n 0, 1) := by decide +kernel
theorem dL_refused_1 : decode cL_refused 1 = .ok (.invokevirtual 169, 3) := by decide +kernel
theorem dL_refused_4 : decode cL_refused 4 = .ok (.lstore_n 1, 1) := by decide +kernel
theorem dL_refused_5 : decode cL_refused 5 = .ok (.iconst 0, 1) := by decide +kernel
theorem dL_refused_6 : decode cL_refused 6 = .ok (.istore_n 3, 1) := by decide +kernel
theorem dL_refused_7 : decode cL_refused 7 = .ok (.iload_n 3, 1) := by decide +kernel
theorem dL_refused_8 : decode cL_refused 8 = .ok (.iconst 4, 1) := by decide +kernel
theorem dL_refused_9 : decode cL_refused 9 = .ok (.if_icmp .ge 19, 3) := by decide +kernel
theorem dL_refused_12 : decode cL_refused 12 = .ok (.aload_n 0, 1) := by decide +kernel
theorem dL_refused_13 : decode cL_refused 13 = .ok (.iload_n 3, 1) := by decide +kernel
theorem dL_refused_14 : decode cL_refused 14 = .ok (.invokestatic 173, 3) := by decide +kernel
theorem dL_refused_17 : decode cL_refused 17 = .ok (.ifCond .ne 5, 3) := by decide +kernel
theorem dL_refused_20 : decode cL_refused 20 = .ok (.iconst 0, 1) := by decide +kernel
theorem dL_refused_21 : decode cL_refused 21 = .ok (.ireturn, 1) := by decide +kernel
theorem dL_refused_22 : decode cL_refused 22 = .ok (.iinc 3 1, 3) := by decide +kernel
theorem dL_refused_25 : decode cL_refused 25 = .ok (.goto (-18), 3) := by decide +kernel
theorem dL_refused_28 : decode cL_refused 28 = .ok (.aload_n 0, 1) := by decide +kernel
theorem dL_refused_29 : decode cL_refused 29 = .ok (.invokevirtual 169, 3) := by decide +kernel
theorem dL_refused_32 : decode cL_refused 32 = .ok (.lload_n 1, 1) := by decide +kernel
theorem dL_refused_33 : decode cL_refused 33 = .ok (.lcmp, 1) := by decide +kernel
theorem dL_refused_34 : decode cL_refused 34 = .ok (.ifCond .ne 7, 3) := by decide +kernel
theorem dL_refused_37 : decode cL_refused 37 = .ok (.iconst 1, 1) := by decide +kernel
theorem dL_refused_38 : decode cL_refused 38 = .ok (.goto 4, 3) := by decide +kernel
theorem dL_refused_41 : decode cL_refused 41 = .ok (.iconst 0, 1) := by decide +kernel
theorem dL_refused_42 : decode cL_refused 42 = .ok (.ireturn, 1) := by decide +kernel
theorem dL_is_0 : decode cL_is 0 = .ok (.aload_n 0, 1) := by decide +kernel
theorem dL_is_1 : decode cL_is 1 = .ok (.iload_n 1, 1) := by decide +kernel
theorem dL_is_2 : decode cL_is 2 = .ok (.invokevirtual 79, 3) := by decide +kernel
theorem dL_is_5 : decode cL_is 5 = .ok (.iload_n 2, 1) := by decide +kernel
theorem dL_is_6 : decode cL_is 6 = .ok (.if_icmp .ne 46, 3) := by decide +kernel
theorem dL_is_9 : decode cL_is 9 = .ok (.aload_n 0, 1) := by decide +kernel
theorem dL_is_10 : decode cL_is 10 = .ok (.iload_n 1, 1) := by decide +kernel
theorem dL_is_11 : decode cL_is 11 = .ok (.invokevirtual 82, 3) := by decide +kernel
theorem dL_is_14 : decode cL_is 14 = .ok (.iload_n 3, 1) := by decide +kernel
theorem dL_is_15 : decode cL_is 15 = .ok (.if_icmp .ne 37, 3) := by decide +kernel
theorem dL_is_18 : decode cL_is 18 = .ok (.aload_n 0, 1) := by decide +kernel
theorem dL_is_19 : decode cL_is 19 = .ok (.iload_n 1, 1) := by decide +kernel
theorem dL_is_20 : decode cL_is 20 = .ok (.invokevirtual 85, 3) := by decide +kernel
theorem dL_is_23 : decode cL_is 23 = .ok (.iload 4, 2) := by decide +kernel
theorem dL_is_25 : decode cL_is 25 = .ok (.if_icmp .ne 27, 3) := by decide +kernel
theorem dL_is_28 : decode cL_is 28 = .ok (.aload_n 0, 1) := by decide +kernel
theorem dL_is_29 : decode cL_is 29 = .ok (.iload_n 1, 1) := by decide +kernel
theorem dL_is_30 : decode cL_is 30 = .ok (.invokevirtual 88, 3) := by decide +kernel
theorem dL_is_33 : decode cL_is 33 = .ok (.iload 5, 2) := by decide +kernel
theorem dL_is_35 : decode cL_is 35 = .ok (.if_icmp .ne 17, 3) := by decide +kernel
theorem dL_is_38 : decode cL_is 38 = .ok (.aload_n 0, 1) := by decide +kernel
theorem dL_is_39 : decode cL_is 39 = .ok (.iload_n 1, 1) := by decide +kernel
theorem dL_is_40 : decode cL_is 40 = .ok (.invokevirtual 91, 3) := by decide +kernel
theorem dL_is_43 : decode cL_is 43 = .ok (.iload 6, 2) := by decide +kernel
theorem dL_is_45 : decode cL_is 45 = .ok (.if_icmp .ne 7, 3) := by decide +kernel
theorem dL_is_48 : decode cL_is 48 = .ok (.iconst 1, 1) := by decide +kernel
theorem dL_is_49 : decode cL_is 49 = .ok (.goto 4, 3) := by decide +kernel
theorem dL_is_52 : decode cL_is 52 = .ok (.iconst 0, 1) := by decide +kernel
theorem dL_is_53 : decode cL_is 53 = .ok (.ireturn, 1) := by decide +kernel
theorem dL_types_0 : decode cL_types 0 = .ok (.iconst 1, 1) := by decide +kernel
theorem dL_types_1 : decode cL_types 1 = .ok (.istore_n 3, 1) := by decide +kernel
theorem dL_types_2 : decode cL_types 2 = .ok (.bipush 56, 2) := by decide +kernel
theorem dL_types_4 : decode cL_types 4 = .ok (.istore 4, 2) := by decide +kernel
theorem dL_types_6 : decode cL_types 6 = .ok (.iload 4, 2) := by decide +kernel
theorem dL_types_8 : decode cL_types 8 = .ok (.ifCond .lt 44, 3) := by decide +kernel
theorem dL_types_11 : decode cL_types 11 = .ok (.lload_n 1, 1) := by decide +kernel
theorem dL_types_12 : decode cL_types 12 = .ok (.iload 4, 2) := by decide +kernel
theorem dL_types_14 : decode cL_types 14 = .ok (.lshr, 1) := by decide +kernel
theorem dL_types_15 : decode cL_types 15 = .ok (.ldc2_w 177, 3) := by decide +kernel
theorem dL_types_18 : decode cL_types 18 = .ok (.land, 1) := by decide +kernel
theorem dL_types_19 : decode cL_types 19 = .ok (.l2i, 1) := by decide +kernel
theorem dL_types_20 : decode cL_types 20 = .ok (.istore 5, 2) := by decide +kernel
theorem dL_types_22 : decode cL_types 22 = .ok (.iload_n 3, 1) := by decide +kernel
theorem dL_types_23 : decode cL_types 23 = .ok (.ifCond .eq 21, 3) := by decide +kernel
theorem dL_types_26 : decode cL_types 26 = .ok (.iload 5, 2) := by decide +kernel
theorem dL_types_28 : decode cL_types 28 = .ok (.ifCond .eq 12, 3) := by decide +kernel
theorem dL_types_31 : decode cL_types 31 = .ok (.aload_n 0, 1) := by decide +kernel
theorem dL_types_32 : decode cL_types 32 = .ok (.iload 5, 2) := by decide +kernel
theorem dL_types_34 : decode cL_types 34 = .ok (.invokevirtual 57, 3) := by decide +kernel
theorem dL_types_37 : decode cL_types 37 = .ok (.ifCond .le 7, 3) := by decide +kernel
theorem dL_types_40 : decode cL_types 40 = .ok (.iconst 1, 1) := by decide +kernel
theorem dL_types_41 : decode cL_types 41 = .ok (.goto 4, 3) := by decide +kernel
theorem dL_types_44 : decode cL_types 44 = .ok (.iconst 0, 1) := by decide +kernel
theorem dL_types_45 : decode cL_types 45 = .ok (.istore_n 3, 1) := by decide +kernel
theorem dL_types_46 : decode cL_types 46 = .ok (.iinc 4 (-8), 3) := by decide +kernel
theorem dL_types_49 : decode cL_types 49 = .ok (.goto (-43), 3) := by decide +kernel
theorem dL_types_52 : decode cL_types 52 = .ok (.iload_n 3, 1) := by decide +kernel
theorem dL_types_53 : decode cL_types 53 = .ok (.ireturn, 1) := by decide +kernel
theorem dL_isError_0 : decode cL_isError 0 = .ok (.aload_n 0, 1) := by decide +kernel
theorem dL_isError_1 : decode cL_isError 1 = .ok (.invokevirtual 219, 3) := by decide +kernel
theorem dL_isError_4 : decode cL_isError 4 = .ok (.ifCond .lt 32, 3) := by decide +kernel
theorem dL_isError_7 : decode cL_isError 7 = .ok (.aload_n 0, 1) := by decide +kernel
theorem dL_isError_8 : decode cL_isError 8 = .ok (.lload_n 1, 1) := by decide +kernel
theorem dL_isError_9 : decode cL_isError 9 = .ok (.invokestatic 209, 3) := by decide +kernel
theorem dL_isError_12 : decode cL_isError 12 = .ok (.ifCond .eq 24, 3) := by decide +kernel
theorem dL_isError_15 : decode cL_isError 15 = .ok (.aload_n 0, 1) := by decide +kernel
theorem dL_isError_16 : decode cL_isError 16 = .ok (.lload_n 3, 1) := by decide +kernel
theorem dL_isError_17 : decode cL_isError 17 = .ok (.invokestatic 209, 3) := by decide +kernel
theorem dL_isError_20 : decode cL_isError 20 = .ok (.ifCond .eq 16, 3) := by decide +kernel
theorem dL_isError_23 : decode cL_isError 23 = .ok (.aload_n 0, 1) := by decide +kernel
theorem dL_isError_24 : decode cL_isError 24 = .ok (.invokevirtual 264, 3) := by decide +kernel
theorem dL_isError_27 : decode cL_isError 27 = .ok (.iload 5, 2) := by decide +kernel
theorem dL_isError_29 : decode cL_isError 29 = .ok (.if_icmp .ne 7, 3) := by decide +kernel
theorem dL_isError_32 : decode cL_isError 32 = .ok (.iconst 1, 1) := by decide +kernel
theorem dL_isError_33 : decode cL_isError 33 = .ok (.goto 4, 3) := by decide +kernel
theorem dL_isError_36 : decode cL_isError 36 = .ok (.iconst 0, 1) := by decide +kernel
theorem dL_isError_37 : decode cL_isError 37 = .ok (.ireturn, 1) := by decide +kernel
theorem dL_refusesOne_0 : decode cL_refusesOne 0 = .ok (.iload_n 1, 1) := by decide +kernel
theorem dL_refusesOne_1 : decode cL_refusesOne 1 = .ok (.iconst 0, 1) := by decide +kernel
theorem dL_refusesOne_2 : decode cL_refusesOne 2 = .ok (.aload_n 0, 1) := by decide +kernel
theorem dL_refusesOne_3 : decode cL_refusesOne 3 = .ok (.invokevirtual 140, 3) := by decide +kernel
theorem dL_refusesOne_6 : decode cL_refusesOne 6 = .ok (.iconst 1, 1) := by decide +kernel
theorem dL_refusesOne_7 : decode cL_refusesOne 7 = .ok (.isub, 1) := by decide +kernel
theorem dL_refusesOne_8 : decode cL_refusesOne 8 = .ok (.invokestatic 165, 3) := by decide +kernel
theorem dL_refusesOne_11 : decode cL_refusesOne 11 = .ok (.istore_n 2, 1) := by decide +kernel
theorem dL_refusesOne_12 : decode cL_refusesOne 12 = .ok (.iload_n 1, 1) := by decide +kernel
theorem dL_refusesOne_13 : decode cL_refusesOne 13 = .ok (.iconst 0, 1) := by decide +kernel
theorem dL_refusesOne_14 : decode cL_refusesOne 14 = .ok (.bipush 11, 2) := by decide +kernel
theorem dL_refusesOne_16 : decode cL_refusesOne 16 = .ok (.invokestatic 165, 3) := by decide +kernel
theorem dL_refusesOne_19 : decode cL_refusesOne 19 = .ok (.istore_n 3, 1) := by decide +kernel
theorem dL_refusesOne_20 : decode cL_refusesOne 20 = .ok (.bipush 12, 2) := by decide +kernel
theorem dL_refusesOne_22 : decode cL_refusesOne 22 = .ok (.iload_n 1, 1) := by decide +kernel
theorem dL_refusesOne_23 : decode cL_refusesOne 23 = .ok (.iadd, 1) := by decide +kernel
theorem dL_refusesOne_24 : decode cL_refusesOne 24 = .ok (.istore 4, 2) := by decide +kernel
theorem dL_refusesOne_26 : decode cL_refusesOne 26 = .ok (.aload_n 0, 1) := by decide +kernel
theorem dL_refusesOne_27 : decode cL_refusesOne 27 = .ok (.iconst 0, 1) := by decide +kernel
theorem dL_refusesOne_28 : decode cL_refusesOne 28 = .ok (.iload_n 1, 1) := by decide +kernel
theorem dL_refusesOne_29 : decode cL_refusesOne 29 = .ok (.iconst 0, 1) := by decide +kernel
theorem dL_refusesOne_30 : decode cL_refusesOne 30 = .ok (.aload_n 0, 1) := by decide +kernel
theorem dL_refusesOne_31 : decode cL_refusesOne 31 = .ok (.invokevirtual 140, 3) := by decide +kernel
theorem dL_refusesOne_34 : decode cL_refusesOne 34 = .ok (.invokestatic 165, 3) := by decide +kernel
theorem dL_refusesOne_37 : decode cL_refusesOne 37 = .ok (.bipush 7, 2) := by decide +kernel
theorem dL_refusesOne_39 : decode cL_refusesOne 39 = .ok (.iconst 0, 1) := by decide +kernel
theorem dL_refusesOne_40 : decode cL_refusesOne 40 = .ok (.iconst 0, 1) := by decide +kernel
theorem dL_refusesOne_41 : decode cL_refusesOne 41 = .ok (.invokestatic 161, 3) := by decide +kernel
theorem dL_refusesOne_44 : decode cL_refusesOne 44 = .ok (.sipush (-2011), 3) := by decide +kernel
theorem dL_refusesOne_47 : decode cL_refusesOne 47 = .ok (.if_icmp .ne 348, 3) := by decide +kernel
theorem dL_refusesOne_50 : decode cL_refusesOne 50 = .ok (.aload_n 0, 1) := by decide +kernel
theorem dL_refusesOne_51 : decode cL_refusesOne 51 = .ok (.iconst 0, 1) := by decide +kernel
theorem dL_refusesOne_52 : decode cL_refusesOne 52 = .ok (.iconst 0, 1) := by decide +kernel
theorem dL_refusesOne_53 : decode cL_refusesOne 53 = .ok (.bipush 7, 2) := by decide +kernel
theorem dL_refusesOne_55 : decode cL_refusesOne 55 = .ok (.iload 4, 2) := by decide +kernel
theorem dL_refusesOne_57 : decode cL_refusesOne 57 = .ok (.iconst 0, 1) := by decide +kernel
theorem dL_refusesOne_58 : decode cL_refusesOne 58 = .ok (.invokestatic 161, 3) := by decide +kernel
theorem dL_refusesOne_61 : decode cL_refusesOne 61 = .ok (.sipush (-2011), 3) := by decide +kernel
theorem dL_refusesOne_64 : decode cL_refusesOne 64 = .ok (.if_icmp .ne 331, 3) := by decide +kernel
theorem dL_refusesOne_67 : decode cL_refusesOne 67 = .ok (.aload_n 0, 1) := by decide +kernel
theorem dL_refusesOne_68 : decode cL_refusesOne 68 = .ok (.iconst 0, 1) := by decide +kernel
theorem dL_refusesOne_69 : decode cL_refusesOne 69 = .ok (.iconst 0, 1) := by decide +kernel
theorem dL_refusesOne_70 : decode cL_refusesOne 70 = .ok (.bipush 7, 2) := by decide +kernel
theorem dL_refusesOne_72 : decode cL_refusesOne 72 = .ok (.iload 4, 2) := by decide +kernel
theorem dL_refusesOne_74 : decode cL_refusesOne 74 = .ok (.iconst 4, 1) := by decide +kernel
theorem dL_refusesOne_75 : decode cL_refusesOne 75 = .ok (.ishl, 1) := by decide +kernel
theorem dL_refusesOne_76 : decode cL_refusesOne 76 = .ok (.iconst 0, 1) := by decide +kernel
theorem dL_refusesOne_77 : decode cL_refusesOne 77 = .ok (.invokestatic 161, 3) := by decide +kernel
theorem dL_refusesOne_80 : decode cL_refusesOne 80 = .ok (.sipush (-2011), 3) := by decide +kernel
theorem dL_refusesOne_83 : decode cL_refusesOne 83 = .ok (.if_icmp .ne 312, 3) := by decide +kernel
theorem dL_refusesOne_86 : decode cL_refusesOne 86 = .ok (.aload_n 0, 1) := by decide +kernel
theorem dL_refusesOne_87 : decode cL_refusesOne 87 = .ok (.iconst 0, 1) := by decide +kernel
theorem dL_refusesOne_88 : decode cL_refusesOne 88 = .ok (.iconst 0, 1) := by decide +kernel
theorem dL_refusesOne_89 : decode cL_refusesOne 89 = .ok (.iconst 0, 1) := by decide +kernel
theorem dL_refusesOne_90 : decode cL_refusesOne 90 = .ok (.iload_n 3, 1) := by decide +kernel
theorem dL_refusesOne_91 : decode cL_refusesOne 91 = .ok (.bipush 8, 2) := by decide +kernel
theorem dL_refusesOne_93 : decode cL_refusesOne 93 = .ok (.ishl, 1) := by decide +kernel
theorem dL_refusesOne_94 : decode cL_refusesOne 94 = .ok (.bipush 100, 2) := by decide +kernel
theorem dL_refusesOne_96 : decode cL_refusesOne 96 = .ok (.invokestatic 161, 3) := by decide +kernel
theorem dL_refusesOne_99 : decode cL_refusesOne 99 = .ok (.iload_n 1, 1) := by decide +kernel
theorem dL_refusesOne_100 : decode cL_refusesOne 100 = .ok (.iconst 2, 1) := by decide +kernel
theorem dL_refusesOne_101 : decode cL_refusesOne 101 = .ok (.if_icmp .ne 9, 3) := by decide +kernel
theorem dL_refusesOne_104 : decode cL_refusesOne 104 = .ok (.sipush (-2012), 3) := by decide +kernel
theorem dL_refusesOne_107 : decode cL_refusesOne 107 = .ok (.goto 6, 3) := by decide +kernel
theorem dL_refusesOne_110 : decode cL_refusesOne 110 = .ok (.sipush (-2011), 3) := by decide +kernel
theorem dL_refusesOne_113 : decode cL_refusesOne 113 = .ok (.if_icmp .ne 282, 3) := by decide +kernel
theorem dL_refusesOne_116 : decode cL_refusesOne 116 = .ok (.aload_n 0, 1) := by decide +kernel
theorem dL_refusesOne_117 : decode cL_refusesOne 117 = .ok (.iconst 0, 1) := by decide +kernel
theorem dL_refusesOne_118 : decode cL_refusesOne 118 = .ok (.iconst 0, 1) := by decide +kernel
theorem dL_refusesOne_119 : decode cL_refusesOne 119 = .ok (.iload_n 1, 1) := by decide +kernel
theorem dL_refusesOne_120 : decode cL_refusesOne 120 = .ok (.iconst 0, 1) := by decide +kernel
theorem dL_refusesOne_121 : decode cL_refusesOne 121 = .ok (.bipush 6, 2) := by decide +kernel
theorem dL_refusesOne_123 : decode cL_refusesOne 123 = .ok (.invokestatic 165, 3) := by decide +kernel
theorem dL_refusesOne_126 : decode cL_refusesOne 126 = .ok (.iconst 0, 1) := by decide +kernel
theorem dL_refusesOne_127 : decode cL_refusesOne 127 = .ok (.iconst 0, 1) := by decide +kernel
theorem dL_refusesOne_128 : decode cL_refusesOne 128 = .ok (.invokestatic 161, 3) := by decide +kernel
theorem dL_refusesOne_131 : decode cL_refusesOne 131 = .ok (.sipush (-2012), 3) := by decide +kernel
theorem dL_refusesOne_134 : decode cL_refusesOne 134 = .ok (.if_icmp .ne 261, 3) := by decide +kernel
theorem dL_refusesOne_137 : decode cL_refusesOne 137 = .ok (.aload_n 0, 1) := by decide +kernel
theorem dL_refusesOne_138 : decode cL_refusesOne 138 = .ok (.iconst 0, 1) := by decide +kernel
theorem dL_refusesOne_139 : decode cL_refusesOne 139 = .ok (.iconst 0, 1) := by decide +kernel
theorem dL_refusesOne_140 : decode cL_refusesOne 140 = .ok (.iconst 0, 1) := by decide +kernel
theorem dL_refusesOne_141 : decode cL_refusesOne 141 = .ok (.iconst 0, 1) := by decide +kernel
theorem dL_refusesOne_142 : decode cL_refusesOne 142 = .ok (.iload_n 1, 1) := by decide +kernel
theorem dL_refusesOne_143 : decode cL_refusesOne 143 = .ok (.bipush (-99), 2) := by decide +kernel
theorem dL_refusesOne_145 : decode cL_refusesOne 145 = .ok (.bipush 99, 2) := by decide +kernel
theorem dL_refusesOne_147 : decode cL_refusesOne 147 = .ok (.invokestatic 165, 3) := by decide +kernel
theorem dL_refusesOne_150 : decode cL_refusesOne 150 = .ok (.invokestatic 161, 3) := by decide +kernel
theorem dL_refusesOne_153 : decode cL_refusesOne 153 = .ok (.sipush (-2012), 3) := by decide +kernel
theorem dL_refusesOne_156 : decode cL_refusesOne 156 = .ok (.if_icmp .ne 239, 3) := by decide +kernel
theorem dL_refusesOne_159 : decode cL_refusesOne 159 = .ok (.aload_n 0, 1) := by decide +kernel
theorem dL_refusesOne_160 : decode cL_refusesOne 160 = .ok (.iconst 1, 1) := by decide +kernel
theorem dL_refusesOne_161 : decode cL_refusesOne 161 = .ok (.iload_n 2, 1) := by decide +kernel
theorem dL_refusesOne_162 : decode cL_refusesOne 162 = .ok (.iconst 0, 1) := by decide +kernel
theorem dL_refusesOne_163 : decode cL_refusesOne 163 = .ok (.iconst 0, 1) := by decide +kernel
theorem dL_refusesOne_164 : decode cL_refusesOne 164 = .ok (.iconst 0, 1) := by decide +kernel
theorem dL_refusesOne_165 : decode cL_refusesOne 165 = .ok (.invokestatic 161, 3) := by decide +kernel
theorem dL_refusesOne_168 : decode cL_refusesOne 168 = .ok (.sipush (-2011), 3) := by decide +kernel
theorem dL_refusesOne_171 : decode cL_refusesOne 171 = .ok (.if_icmp .ne 224, 3) := by decide +kernel
theorem dL_refusesOne_174 : decode cL_refusesOne 174 = .ok (.aload_n 0, 1) := by decide +kernel
theorem dL_refusesOne_175 : decode cL_refusesOne 175 = .ok (.iconst 2, 1) := by decide +kernel
theorem dL_refusesOne_176 : decode cL_refusesOne 176 = .ok (.iload_n 2, 1) := by decide +kernel
theorem dL_refusesOne_177 : decode cL_refusesOne 177 = .ok (.iload_n 2, 1) := by decide +kernel
theorem dL_refusesOne_178 : decode cL_refusesOne 178 = .ok (.iconst 0, 1) := by decide +kernel
theorem dL_refusesOne_179 : decode cL_refusesOne 179 = .ok (.iconst 0, 1) := by decide +kernel
theorem dL_refusesOne_180 : decode cL_refusesOne 180 = .ok (.invokestatic 161, 3) := by decide +kernel
theorem dL_refusesOne_183 : decode cL_refusesOne 183 = .ok (.sipush (-2011), 3) := by decide +kernel
theorem dL_refusesOne_186 : decode cL_refusesOne 186 = .ok (.if_icmp .ne 209, 3) := by decide +kernel
theorem dL_refusesOne_189 : decode cL_refusesOne 189 = .ok (.aload_n 0, 1) := by decide +kernel
theorem dL_refusesOne_190 : decode cL_refusesOne 190 = .ok (.bipush 32, 2) := by decide +kernel
theorem dL_refusesOne_192 : decode cL_refusesOne 192 = .ok (.iload_n 3, 1) := by decide +kernel
theorem dL_refusesOne_193 : decode cL_refusesOne 193 = .ok (.iconst 5, 1) := by decide +kernel
theorem dL_refusesOne_194 : decode cL_refusesOne 194 = .ok (.iconst 0, 1) := by decide +kernel
theorem dL_refusesOne_195 : decode cL_refusesOne 195 = .ok (.iconst 0, 1) := by decide +kernel
theorem dL_refusesOne_196 : decode cL_refusesOne 196 = .ok (.invokestatic 161, 3) := by decide +kernel
theorem dL_refusesOne_199 : decode cL_refusesOne 199 = .ok (.sipush (-2011), 3) := by decide +kernel
theorem dL_refusesOne_202 : decode cL_refusesOne 202 = .ok (.if_icmp .ne 193, 3) := by decide +kernel
theorem dL_refusesOne_205 : decode cL_refusesOne 205 = .ok (.aload_n 0, 1) := by decide +kernel
theorem dL_refusesOne_206 : decode cL_refusesOne 206 = .ok (.bipush 33, 2) := by decide +kernel
theorem dL_refusesOne_208 : decode cL_refusesOne 208 = .ok (.iload_n 3, 1) := by decide +kernel
theorem dL_refusesOne_209 : decode cL_refusesOne 209 = .ok (.iconst 5, 1) := by decide +kernel
theorem dL_refusesOne_210 : decode cL_refusesOne 210 = .ok (.iconst 0, 1) := by decide +kernel
theorem dL_refusesOne_211 : decode cL_refusesOne 211 = .ok (.iconst 0, 1) := by decide +kernel
theorem dL_refusesOne_212 : decode cL_refusesOne 212 = .ok (.invokestatic 161, 3) := by decide +kernel
theorem dL_refusesOne_215 : decode cL_refusesOne 215 = .ok (.sipush (-2011), 3) := by decide +kernel
theorem dL_refusesOne_218 : decode cL_refusesOne 218 = .ok (.if_icmp .ne 177, 3) := by decide +kernel
theorem dL_refusesOne_221 : decode cL_refusesOne 221 = .ok (.aload_n 0, 1) := by decide +kernel
theorem dL_refusesOne_222 : decode cL_refusesOne 222 = .ok (.iconst 3, 1) := by decide +kernel
theorem dL_refusesOne_223 : decode cL_refusesOne 223 = .ok (.iload_n 1, 1) := by decide +kernel
theorem dL_refusesOne_224 : decode cL_refusesOne 224 = .ok (.iconst 0, 1) := by decide +kernel
theorem dL_refusesOne_225 : decode cL_refusesOne 225 = .ok (.iconst 2, 1) := by decide +kernel
theorem dL_refusesOne_226 : decode cL_refusesOne 226 = .ok (.invokestatic 165, 3) := by decide +kernel
theorem dL_refusesOne_229 : decode cL_refusesOne 229 = .ok (.iconst 0, 1) := by decide +kernel
theorem dL_refusesOne_230 : decode cL_refusesOne 230 = .ok (.iconst 0, 1) := by decide +kernel
theorem dL_refusesOne_231 : decode cL_refusesOne 231 = .ok (.iconst 0, 1) := by decide +kernel
theorem dL_refusesOne_232 : decode cL_refusesOne 232 = .ok (.invokestatic 161, 3) := by decide +kernel
theorem dL_refusesOne_235 : decode cL_refusesOne 235 = .ok (.sipush (-2011), 3) := by decide +kernel
theorem dL_refusesOne_238 : decode cL_refusesOne 238 = .ok (.if_icmp .ne 157, 3) := by decide +kernel
theorem dL_refusesOne_241 : decode cL_refusesOne 241 = .ok (.aload_n 0, 1) := by decide +kernel
theorem dL_refusesOne_242 : decode cL_refusesOne 242 = .ok (.iconst 3, 1) := by decide +kernel
theorem dL_refusesOne_243 : decode cL_refusesOne 243 = .ok (.iconst 2, 1) := by decide +kernel
theorem dL_refusesOne_244 : decode cL_refusesOne 244 = .ok (.iload_n 1, 1) := by decide +kernel
theorem dL_refusesOne_245 : decode cL_refusesOne 245 = .ok (.iconst 1, 1) := by decide +kernel
theorem dL_refusesOne_246 : decode cL_refusesOne 246 = .ok (.iconst 4, 1) := by decide +kernel
theorem dL_refusesOne_247 : decode cL_refusesOne 247 = .ok (.invokestatic 165, 3) := by decide +kernel
theorem dL_refusesOne_250 : decode cL_refusesOne 250 = .ok (.iconst 0, 1) := by decide +kernel
theorem dL_refusesOne_251 : decode cL_refusesOne 251 = .ok (.iconst 0, 1) := by decide +kernel
theorem dL_refusesOne_252 : decode cL_refusesOne 252 = .ok (.invokestatic 161, 3) := by decide +kernel
theorem dL_refusesOne_255 : decode cL_refusesOne 255 = .ok (.sipush (-2012), 3) := by decide +kernel
theorem dL_refusesOne_258 : decode cL_refusesOne 258 = .ok (.if_icmp .ne 137, 3) := by decide +kernel
theorem dL_refusesOne_261 : decode cL_refusesOne 261 = .ok (.aload_n 0, 1) := by decide +kernel
theorem dL_refusesOne_262 : decode cL_refusesOne 262 = .ok (.iconst 4, 1) := by decide +kernel
theorem dL_refusesOne_263 : decode cL_refusesOne 263 = .ok (.iload_n 1, 1) := by decide +kernel
theorem dL_refusesOne_264 : decode cL_refusesOne 264 = .ok (.iconst 0, 1) := by decide +kernel
theorem dL_refusesOne_265 : decode cL_refusesOne 265 = .ok (.iconst 2, 1) := by decide +kernel
theorem dL_refusesOne_266 : decode cL_refusesOne 266 = .ok (.invokestatic 165, 3) := by decide +kernel
theorem dL_refusesOne_269 : decode cL_refusesOne 269 = .ok (.iconst 0, 1) := by decide +kernel
theorem dL_refusesOne_270 : decode cL_refusesOne 270 = .ok (.iconst 0, 1) := by decide +kernel
theorem dL_refusesOne_271 : decode cL_refusesOne 271 = .ok (.iconst 0, 1) := by decide +kernel
theorem dL_refusesOne_272 : decode cL_refusesOne 272 = .ok (.invokestatic 161, 3) := by decide +kernel
theorem dL_refusesOne_275 : decode cL_refusesOne 275 = .ok (.sipush (-2011), 3) := by decide +kernel
theorem dL_refusesOne_278 : decode cL_refusesOne 278 = .ok (.if_icmp .ne 117, 3) := by decide +kernel
theorem dL_refusesOne_281 : decode cL_refusesOne 281 = .ok (.aload_n 0, 1) := by decide +kernel
theorem dL_refusesOne_282 : decode cL_refusesOne 282 = .ok (.iconst 4, 1) := by decide +kernel
theorem dL_refusesOne_283 : decode cL_refusesOne 283 = .ok (.iconst 0, 1) := by decide +kernel
theorem dL_refusesOne_284 : decode cL_refusesOne 284 = .ok (.iload_n 1, 1) := by decide +kernel
theorem dL_refusesOne_285 : decode cL_refusesOne 285 = .ok (.iconst 1, 1) := by decide +kernel
theorem dL_refusesOne_286 : decode cL_refusesOne 286 = .ok (.bipush 6, 2) := by decide +kernel
theorem dL_refusesOne_288 : decode cL_refusesOne 288 = .ok (.invokestatic 165, 3) := by decide +kernel
theorem dL_refusesOne_291 : decode cL_refusesOne 291 = .ok (.iconst 0, 1) := by decide +kernel
theorem dL_refusesOne_292 : decode cL_refusesOne 292 = .ok (.iconst 0, 1) := by decide +kernel
theorem dL_refusesOne_293 : decode cL_refusesOne 293 = .ok (.invokestatic 161, 3) := by decide +kernel
theorem dL_refusesOne_296 : decode cL_refusesOne 296 = .ok (.sipush (-2012), 3) := by decide +kernel
theorem dL_refusesOne_299 : decode cL_refusesOne 299 = .ok (.if_icmp .ne 96, 3) := by decide +kernel
theorem dL_refusesOne_302 : decode cL_refusesOne 302 = .ok (.aload_n 0, 1) := by decide +kernel
theorem dL_refusesOne_303 : decode cL_refusesOne 303 = .ok (.iconst 5, 1) := by decide +kernel
theorem dL_refusesOne_304 : decode cL_refusesOne 304 = .ok (.iload_n 1, 1) := by decide +kernel
theorem dL_refusesOne_305 : decode cL_refusesOne 305 = .ok (.iconst 0, 1) := by decide +kernel
theorem dL_refusesOne_306 : decode cL_refusesOne 306 = .ok (.iconst 3, 1) := by decide +kernel
theorem dL_refusesOne_307 : decode cL_refusesOne 307 = .ok (.invokestatic 165, 3) := by decide +kernel
theorem dL_refusesOne_310 : decode cL_refusesOne 310 = .ok (.iconst 0, 1) := by decide +kernel
theorem dL_refusesOne_311 : decode cL_refusesOne 311 = .ok (.iconst 0, 1) := by decide +kernel
theorem dL_refusesOne_312 : decode cL_refusesOne 312 = .ok (.iconst 0, 1) := by decide +kernel
theorem dL_refusesOne_313 : decode cL_refusesOne 313 = .ok (.invokestatic 161, 3) := by decide +kernel
theorem dL_refusesOne_316 : decode cL_refusesOne 316 = .ok (.sipush (-2012), 3) := by decide +kernel
theorem dL_refusesOne_319 : decode cL_refusesOne 319 = .ok (.if_icmp .ne 76, 3) := by decide +kernel
theorem dL_refusesOne_322 : decode cL_refusesOne 322 = .ok (.aload_n 0, 1) := by decide +kernel
theorem dL_refusesOne_323 : decode cL_refusesOne 323 = .ok (.bipush 6, 2) := by decide +kernel
theorem dL_refusesOne_325 : decode cL_refusesOne 325 = .ok (.iload_n 2, 1) := by decide +kernel
theorem dL_refusesOne_326 : decode cL_refusesOne 326 = .ok (.sipush 200, 3) := by decide +kernel
theorem dL_refusesOne_329 : decode cL_refusesOne 329 = .ok (.iconst 0, 1) := by decide +kernel
theorem dL_refusesOne_330 : decode cL_refusesOne 330 = .ok (.iconst 0, 1) := by decide +kernel
theorem dL_refusesOne_331 : decode cL_refusesOne 331 = .ok (.invokestatic 161, 3) := by decide +kernel
theorem dL_refusesOne_334 : decode cL_refusesOne 334 = .ok (.sipush (-2011), 3) := by decide +kernel
theorem dL_refusesOne_337 : decode cL_refusesOne 337 = .ok (.if_icmp .ne 58, 3) := by decide +kernel
theorem dL_refusesOne_340 : decode cL_refusesOne 340 = .ok (.aload_n 0, 1) := by decide +kernel
theorem dL_refusesOne_341 : decode cL_refusesOne 341 = .ok (.bipush 7, 2) := by decide +kernel
theorem dL_refusesOne_343 : decode cL_refusesOne 343 = .ok (.iload_n 2, 1) := by decide +kernel
theorem dL_refusesOne_344 : decode cL_refusesOne 344 = .ok (.iconst 0, 1) := by decide +kernel
theorem dL_refusesOne_345 : decode cL_refusesOne 345 = .ok (.iconst 0, 1) := by decide +kernel
theorem dL_refusesOne_346 : decode cL_refusesOne 346 = .ok (.iconst 0, 1) := by decide +kernel
theorem dL_refusesOne_347 : decode cL_refusesOne 347 = .ok (.invokestatic 161, 3) := by decide +kernel
theorem dL_refusesOne_350 : decode cL_refusesOne 350 = .ok (.sipush (-2011), 3) := by decide +kernel
theorem dL_refusesOne_353 : decode cL_refusesOne 353 = .ok (.if_icmp .ne 42, 3) := by decide +kernel
theorem dL_refusesOne_356 : decode cL_refusesOne 356 = .ok (.aload_n 0, 1) := by decide +kernel
theorem dL_refusesOne_357 : decode cL_refusesOne 357 = .ok (.bipush 8, 2) := by decide +kernel
theorem dL_refusesOne_359 : decode cL_refusesOne 359 = .ok (.iload_n 1, 1) := by decide +kernel
theorem dL_refusesOne_360 : decode cL_refusesOne 360 = .ok (.bipush 33, 2) := by decide +kernel
theorem dL_refusesOne_362 : decode cL_refusesOne 362 = .ok (.bipush 126, 2) := by decide +kernel
theorem dL_refusesOne_364 : decode cL_refusesOne 364 = .ok (.invokestatic 165, 3) := by decide +kernel
theorem dL_refusesOne_367 : decode cL_refusesOne 367 = .ok (.iconst 0, 1) := by decide +kernel
theorem dL_refusesOne_368 : decode cL_refusesOne 368 = .ok (.iconst 0, 1) := by decide +kernel
theorem dL_refusesOne_369 : decode cL_refusesOne 369 = .ok (.iconst 0, 1) := by decide +kernel
theorem dL_refusesOne_370 : decode cL_refusesOne 370 = .ok (.invokestatic 161, 3) := by decide +kernel
theorem dL_refusesOne_373 : decode cL_refusesOne 373 = .ok (.sipush (-2012), 3) := by decide +kernel
theorem dL_refusesOne_376 : decode cL_refusesOne 376 = .ok (.if_icmp .ne 19, 3) := by decide +kernel
theorem dL_refusesOne_379 : decode cL_refusesOne 379 = .ok (.aload_n 0, 1) := by decide +kernel
theorem dL_refusesOne_380 : decode cL_refusesOne 380 = .ok (.bipush 9, 2) := by decide +kernel
theorem dL_refusesOne_382 : decode cL_refusesOne 382 = .ok (.iconst 0, 1) := by decide +kernel
theorem dL_refusesOne_383 : decode cL_refusesOne 383 = .ok (.iconst 0, 1) := by decide +kernel
theorem dL_refusesOne_384 : decode cL_refusesOne 384 = .ok (.iconst 0, 1) := by decide +kernel
theorem dL_refusesOne_385 : decode cL_refusesOne 385 = .ok (.iconst 0, 1) := by decide +kernel
theorem dL_refusesOne_386 : decode cL_refusesOne 386 = .ok (.invokestatic 161, 3) := by decide +kernel
theorem dL_refusesOne_389 : decode cL_refusesOne 389 = .ok (.sipush (-2012), 3) := by decide +kernel
theorem dL_refusesOne_392 : decode cL_refusesOne 392 = .ok (.if_icmp .eq 5, 3) := by decide +kernel
theorem dL_refusesOne_395 : decode cL_refusesOne 395 = .ok (.iconst 0, 1) := by decide +kernel
theorem dL_refusesOne_396 : decode cL_refusesOne 396 = .ok (.ireturn, 1) := by decide +kernel
theorem dL_refusesOne_397 : decode cL_refusesOne 397 = .ok (.bipush 12, 2) := by decide +kernel
theorem dL_refusesOne_399 : decode cL_refusesOne 399 = .ok (.istore 5, 2) := by decide +kernel
theorem dL_refusesOne_401 : decode cL_refusesOne 401 = .ok (.iload 5, 2) := by decide +kernel
theorem dL_refusesOne_403 : decode cL_refusesOne 403 = .ok (.bipush 22, 2) := by decide +kernel
theorem dL_refusesOne_405 : decode cL_refusesOne 405 = .ok (.if_icmp .ge 27, 3) := by decide +kernel
theorem dL_refusesOne_408 : decode cL_refusesOne 408 = .ok (.aload_n 0, 1) := by decide +kernel
theorem dL_refusesOne_409 : decode cL_refusesOne 409 = .ok (.iload 5, 2) := by decide +kernel
theorem dL_refusesOne_411 : decode cL_refusesOne 411 = .ok (.iload_n 2, 1) := by decide +kernel
theorem dL_refusesOne_412 : decode cL_refusesOne 412 = .ok (.iconst 0, 1) := by decide +kernel
theorem dL_refusesOne_413 : decode cL_refusesOne 413 = .ok (.iconst 0, 1) := by decide +kernel
theorem dL_refusesOne_414 : decode cL_refusesOne 414 = .ok (.iconst 0, 1) := by decide +kernel
theorem dL_refusesOne_415 : decode cL_refusesOne 415 = .ok (.invokestatic 161, 3) := by decide +kernel
theorem dL_refusesOne_418 : decode cL_refusesOne 418 = .ok (.sipush (-2011), 3) := by decide +kernel
theorem dL_refusesOne_421 : decode cL_refusesOne 421 = .ok (.if_icmp .eq 5, 3) := by decide +kernel
theorem dL_refusesOne_424 : decode cL_refusesOne 424 = .ok (.iconst 0, 1) := by decide +kernel
theorem dL_refusesOne_425 : decode cL_refusesOne 425 = .ok (.ireturn, 1) := by decide +kernel
theorem dL_refusesOne_426 : decode cL_refusesOne 426 = .ok (.iinc 5 1, 3) := by decide +kernel
theorem dL_refusesOne_429 : decode cL_refusesOne 429 = .ok (.goto (-28), 3) := by decide +kernel
theorem dL_refusesOne_432 : decode cL_refusesOne 432 = .ok (.bipush 22, 2) := by decide +kernel
theorem dL_refusesOne_434 : decode cL_refusesOne 434 = .ok (.istore 5, 2) := by decide +kernel
theorem dL_refusesOne_436 : decode cL_refusesOne 436 = .ok (.iload 5, 2) := by decide +kernel
theorem dL_refusesOne_438 : decode cL_refusesOne 438 = .ok (.bipush 26, 2) := by decide +kernel
theorem dL_refusesOne_440 : decode cL_refusesOne 440 = .ok (.if_icmp .ge 27, 3) := by decide +kernel
theorem dL_refusesOne_443 : decode cL_refusesOne 443 = .ok (.aload_n 0, 1) := by decide +kernel
theorem dL_refusesOne_444 : decode cL_refusesOne 444 = .ok (.iload 5, 2) := by decide +kernel
theorem dL_refusesOne_446 : decode cL_refusesOne 446 = .ok (.iload_n 3, 1) := by decide +kernel
theorem dL_refusesOne_447 : decode cL_refusesOne 447 = .ok (.iconst 0, 1) := by decide +kernel
theorem dL_refusesOne_448 : decode cL_refusesOne 448 = .ok (.iconst 0, 1) := by decide +kernel
theorem dL_refusesOne_449 : decode cL_refusesOne 449 = .ok (.iconst 0, 1) := by decide +kernel
theorem dL_refusesOne_450 : decode cL_refusesOne 450 = .ok (.invokestatic 161, 3) := by decide +kernel
theorem dL_refusesOne_453 : decode cL_refusesOne 453 = .ok (.sipush (-2011), 3) := by decide +kernel
theorem dL_refusesOne_456 : decode cL_refusesOne 456 = .ok (.if_icmp .eq 5, 3) := by decide +kernel
theorem dL_refusesOne_459 : decode cL_refusesOne 459 = .ok (.iconst 0, 1) := by decide +kernel
theorem dL_refusesOne_460 : decode cL_refusesOne 460 = .ok (.ireturn, 1) := by decide +kernel
theorem dL_refusesOne_461 : decode cL_refusesOne 461 = .ok (.iinc 5 1, 3) := by decide +kernel
theorem dL_refusesOne_464 : decode cL_refusesOne 464 = .ok (.goto (-28), 3) := by decide +kernel
theorem dL_refusesOne_467 : decode cL_refusesOne 467 = .ok (.aload_n 0, 1) := by decide +kernel
theorem dL_refusesOne_468 : decode cL_refusesOne 468 = .ok (.bipush 26, 2) := by decide +kernel
theorem dL_refusesOne_470 : decode cL_refusesOne 470 = .ok (.sipush 206, 3) := by decide +kernel
theorem dL_refusesOne_473 : decode cL_refusesOne 473 = .ok (.iload_n 3, 1) := by decide +kernel
theorem dL_refusesOne_474 : decode cL_refusesOne 474 = .ok (.iconst 0, 1) := by decide +kernel
theorem dL_refusesOne_475 : decode cL_refusesOne 475 = .ok (.iconst 0, 1) := by decide +kernel
theorem dL_refusesOne_476 : decode cL_refusesOne 476 = .ok (.invokestatic 161, 3) := by decide +kernel
theorem dL_refusesOne_479 : decode cL_refusesOne 479 = .ok (.sipush (-2011), 3) := by decide +kernel
theorem dL_refusesOne_482 : decode cL_refusesOne 482 = .ok (.if_icmp .ne 72, 3) := by decide +kernel
theorem dL_refusesOne_485 : decode cL_refusesOne 485 = .ok (.aload_n 0, 1) := by decide +kernel
theorem dL_refusesOne_486 : decode cL_refusesOne 486 = .ok (.bipush 26, 2) := by decide +kernel
theorem dL_refusesOne_488 : decode cL_refusesOne 488 = .ok (.iload_n 1, 1) := by decide +kernel
theorem dL_refusesOne_489 : decode cL_refusesOne 489 = .ok (.iconst 0, 1) := by decide +kernel
theorem dL_refusesOne_490 : decode cL_refusesOne 490 = .ok (.sipush 205, 3) := by decide +kernel
theorem dL_refusesOne_493 : decode cL_refusesOne 493 = .ok (.invokestatic 165, 3) := by decide +kernel
theorem dL_refusesOne_496 : decode cL_refusesOne 496 = .ok (.bipush 11, 2) := by decide +kernel
theorem dL_refusesOne_498 : decode cL_refusesOne 498 = .ok (.iconst 0, 1) := by decide +kernel
theorem dL_refusesOne_499 : decode cL_refusesOne 499 = .ok (.iconst 0, 1) := by decide +kernel
theorem dL_refusesOne_500 : decode cL_refusesOne 500 = .ok (.invokestatic 161, 3) := by decide +kernel
theorem dL_refusesOne_503 : decode cL_refusesOne 503 = .ok (.sipush (-2012), 3) := by decide +kernel
theorem dL_refusesOne_506 : decode cL_refusesOne 506 = .ok (.if_icmp .ne 48, 3) := by decide +kernel
theorem dL_refusesOne_509 : decode cL_refusesOne 509 = .ok (.aload_n 0, 1) := by decide +kernel
theorem dL_refusesOne_510 : decode cL_refusesOne 510 = .ok (.bipush 30, 2) := by decide +kernel
theorem dL_refusesOne_512 : decode cL_refusesOne 512 = .ok (.iload_n 1, 1) := by decide +kernel
theorem dL_refusesOne_513 : decode cL_refusesOne 513 = .ok (.iconst 0, 1) := by decide +kernel
theorem dL_refusesOne_514 : decode cL_refusesOne 514 = .ok (.sipush 199, 3) := by decide +kernel
theorem dL_refusesOne_517 : decode cL_refusesOne 517 = .ok (.invokestatic 165, 3) := by decide +kernel
theorem dL_refusesOne_520 : decode cL_refusesOne 520 = .ok (.iconst 0, 1) := by decide +kernel
theorem dL_refusesOne_521 : decode cL_refusesOne 521 = .ok (.iconst 0, 1) := by decide +kernel
theorem dL_refusesOne_522 : decode cL_refusesOne 522 = .ok (.iconst 0, 1) := by decide +kernel
theorem dL_refusesOne_523 : decode cL_refusesOne 523 = .ok (.invokestatic 161, 3) := by decide +kernel
theorem dL_refusesOne_526 : decode cL_refusesOne 526 = .ok (.sipush (-2012), 3) := by decide +kernel
theorem dL_refusesOne_529 : decode cL_refusesOne 529 = .ok (.if_icmp .ne 25, 3) := by decide +kernel
theorem dL_refusesOne_532 : decode cL_refusesOne 532 = .ok (.aload_n 0, 1) := by decide +kernel
theorem dL_refusesOne_533 : decode cL_refusesOne 533 = .ok (.bipush 31, 2) := by decide +kernel
theorem dL_refusesOne_535 : decode cL_refusesOne 535 = .ok (.iload_n 1, 1) := by decide +kernel
theorem dL_refusesOne_536 : decode cL_refusesOne 536 = .ok (.iconst 0, 1) := by decide +kernel
theorem dL_refusesOne_537 : decode cL_refusesOne 537 = .ok (.bipush 20, 2) := by decide +kernel
theorem dL_refusesOne_539 : decode cL_refusesOne 539 = .ok (.invokestatic 165, 3) := by decide +kernel
theorem dL_refusesOne_542 : decode cL_refusesOne 542 = .ok (.iconst 0, 1) := by decide +kernel
theorem dL_refusesOne_543 : decode cL_refusesOne 543 = .ok (.iconst 0, 1) := by decide +kernel
theorem dL_refusesOne_544 : decode cL_refusesOne 544 = .ok (.iconst 0, 1) := by decide +kernel
theorem dL_refusesOne_545 : decode cL_refusesOne 545 = .ok (.invokestatic 161, 3) := by decide +kernel
theorem dL_refusesOne_548 : decode cL_refusesOne 548 = .ok (.sipush (-2012), 3) := by decide +kernel
theorem dL_refusesOne_551 : decode cL_refusesOne 551 = .ok (.if_icmp .eq 5, 3) := by decide +kernel
theorem dL_refusesOne_554 : decode cL_refusesOne 554 = .ok (.iconst 0, 1) := by decide +kernel
theorem dL_refusesOne_555 : decode cL_refusesOne 555 = .ok (.ireturn, 1) := by decide +kernel
theorem dL_refusesOne_556 : decode cL_refusesOne 556 = .ok (.bipush 27, 2) := by decide +kernel
theorem dL_refusesOne_558 : decode cL_refusesOne 558 = .ok (.istore 5, 2) := by decide +kernel
theorem dL_refusesOne_560 : decode cL_refusesOne 560 = .ok (.iload 5, 2) := by decide +kernel
theorem dL_refusesOne_562 : decode cL_refusesOne 562 = .ok (.bipush 30, 2) := by decide +kernel
theorem dL_refusesOne_564 : decode cL_refusesOne 564 = .ok (.if_icmp .ge 50, 3) := by decide +kernel
theorem dL_refusesOne_567 : decode cL_refusesOne 567 = .ok (.aload_n 0, 1) := by decide +kernel
theorem dL_refusesOne_568 : decode cL_refusesOne 568 = .ok (.iload 5, 2) := by decide +kernel
theorem dL_refusesOne_570 : decode cL_refusesOne 570 = .ok (.bipush 21, 2) := by decide +kernel
theorem dL_refusesOne_572 : decode cL_refusesOne 572 = .ok (.iload_n 3, 1) := by decide +kernel
theorem dL_refusesOne_573 : decode cL_refusesOne 573 = .ok (.iconst 0, 1) := by decide +kernel
theorem dL_refusesOne_574 : decode cL_refusesOne 574 = .ok (.iconst 0, 1) := by decide +kernel
theorem dL_refusesOne_575 : decode cL_refusesOne 575 = .ok (.invokestatic 161, 3) := by decide +kernel
theorem dL_refusesOne_578 : decode cL_refusesOne 578 = .ok (.sipush (-2011), 3) := by decide +kernel
theorem dL_refusesOne_581 : decode cL_refusesOne 581 = .ok (.if_icmp .ne 25, 3) := by decide +kernel
theorem dL_refusesOne_584 : decode cL_refusesOne 584 = .ok (.aload_n 0, 1) := by decide +kernel
theorem dL_refusesOne_585 : decode cL_refusesOne 585 = .ok (.iload 5, 2) := by decide +kernel
theorem dL_refusesOne_587 : decode cL_refusesOne 587 = .ok (.iload_n 1, 1) := by decide +kernel
theorem dL_refusesOne_588 : decode cL_refusesOne 588 = .ok (.iconst 0, 1) := by decide +kernel
theorem dL_refusesOne_589 : decode cL_refusesOne 589 = .ok (.bipush 20, 2) := by decide +kernel
theorem dL_refusesOne_591 : decode cL_refusesOne 591 = .ok (.invokestatic 165, 3) := by decide +kernel
theorem dL_refusesOne_594 : decode cL_refusesOne 594 = .ok (.iconst 0, 1) := by decide +kernel
theorem dL_refusesOne_595 : decode cL_refusesOne 595 = .ok (.iconst 0, 1) := by decide +kernel
theorem dL_refusesOne_596 : decode cL_refusesOne 596 = .ok (.iconst 0, 1) := by decide +kernel
theorem dL_refusesOne_597 : decode cL_refusesOne 597 = .ok (.invokestatic 161, 3) := by decide +kernel
theorem dL_refusesOne_600 : decode cL_refusesOne 600 = .ok (.sipush (-2012), 3) := by decide +kernel
theorem dL_refusesOne_603 : decode cL_refusesOne 603 = .ok (.if_icmp .eq 5, 3) := by decide +kernel
theorem dL_refusesOne_606 : decode cL_refusesOne 606 = .ok (.iconst 0, 1) := by decide +kernel
theorem dL_refusesOne_607 : decode cL_refusesOne 607 = .ok (.ireturn, 1) := by decide +kernel
theorem dL_refusesOne_608 : decode cL_refusesOne 608 = .ok (.iinc 5 1, 3) := by decide +kernel
theorem dL_refusesOne_611 : decode cL_refusesOne 611 = .ok (.goto (-51), 3) := by decide +kernel
theorem dL_refusesOne_614 : decode cL_refusesOne 614 = .ok (.aload_n 0, 1) := by decide +kernel
theorem dL_refusesOne_615 : decode cL_refusesOne 615 = .ok (.invokevirtual 140, 3) := by decide +kernel
theorem dL_refusesOne_618 : decode cL_refusesOne 618 = .ok (.ifCond .eq 73, 3) := by decide +kernel
theorem dL_refusesOne_621 : decode cL_refusesOne 621 = .ok (.aload_n 0, 1) := by decide +kernel
theorem dL_refusesOne_622 : decode cL_refusesOne 622 = .ok (.iconst 2, 1) := by decide +kernel
theorem dL_refusesOne_623 : decode cL_refusesOne 623 = .ok (.iconst 0, 1) := by decide +kernel
theorem dL_refusesOne_624 : decode cL_refusesOne 624 = .ok (.iload_n 2, 1) := by decide +kernel
theorem dL_refusesOne_625 : decode cL_refusesOne 625 = .ok (.iconst 0, 1) := by decide +kernel
theorem dL_refusesOne_626 : decode cL_refusesOne 626 = .ok (.iconst 0, 1) := by decide +kernel
theorem dL_refusesOne_627 : decode cL_refusesOne 627 = .ok (.invokestatic 161, 3) := by decide +kernel
theorem dL_refusesOne_630 : decode cL_refusesOne 630 = .ok (.sipush (-2011), 3) := by decide +kernel
theorem dL_refusesOne_633 : decode cL_refusesOne 633 = .ok (.if_icmp .ne 62, 3) := by decide +kernel
theorem dL_refusesOne_636 : decode cL_refusesOne 636 = .ok (.aload_n 0, 1) := by decide +kernel
theorem dL_refusesOne_637 : decode cL_refusesOne 637 = .ok (.bipush 6, 2) := by decide +kernel
theorem dL_refusesOne_639 : decode cL_refusesOne 639 = .ok (.iconst 0, 1) := by decide +kernel
theorem dL_refusesOne_640 : decode cL_refusesOne 640 = .ok (.iload_n 1, 1) := by decide +kernel
theorem dL_refusesOne_641 : decode cL_refusesOne 641 = .ok (.iconst 0, 1) := by decide +kernel
theorem dL_refusesOne_642 : decode cL_refusesOne 642 = .ok (.sipush 199, 3) := by decide +kernel
theorem dL_refusesOne_645 : decode cL_refusesOne 645 = .ok (.invokestatic 165, 3) := by decide +kernel
theorem dL_refusesOne_648 : decode cL_refusesOne 648 = .ok (.iconst 0, 1) := by decide +kernel
theorem dL_refusesOne_649 : decode cL_refusesOne 649 = .ok (.iconst 0, 1) := by decide +kernel
theorem dL_refusesOne_650 : decode cL_refusesOne 650 = .ok (.invokestatic 161, 3) := by decide +kernel
theorem dL_refusesOne_653 : decode cL_refusesOne 653 = .ok (.sipush (-2012), 3) := by decide +kernel
theorem dL_refusesOne_656 : decode cL_refusesOne 656 = .ok (.if_icmp .ne 39, 3) := by decide +kernel
theorem dL_refusesOne_659 : decode cL_refusesOne 659 = .ok (.aload_n 0, 1) := by decide +kernel
theorem dL_refusesOne_660 : decode cL_refusesOne 660 = .ok (.bipush 20, 2) := by decide +kernel
theorem dL_refusesOne_662 : decode cL_refusesOne 662 = .ok (.iconst 0, 1) := by decide +kernel
theorem dL_refusesOne_663 : decode cL_refusesOne 663 = .ok (.iload_n 2, 1) := by decide +kernel
theorem dL_refusesOne_664 : decode cL_refusesOne 664 = .ok (.iconst 0, 1) := by decide +kernel
theorem dL_refusesOne_665 : decode cL_refusesOne 665 = .ok (.iconst 0, 1) := by decide +kernel
theorem dL_refusesOne_666 : decode cL_refusesOne 666 = .ok (.invokestatic 161, 3) := by decide +kernel
theorem dL_refusesOne_669 : decode cL_refusesOne 669 = .ok (.sipush (-2011), 3) := by decide +kernel
theorem dL_refusesOne_672 : decode cL_refusesOne 672 = .ok (.if_icmp .ne 23, 3) := by decide +kernel
theorem dL_refusesOne_675 : decode cL_refusesOne 675 = .ok (.aload_n 0, 1) := by decide +kernel
theorem dL_refusesOne_676 : decode cL_refusesOne 676 = .ok (.bipush 21, 2) := by decide +kernel
theorem dL_refusesOne_678 : decode cL_refusesOne 678 = .ok (.iconst 0, 1) := by decide +kernel
theorem dL_refusesOne_679 : decode cL_refusesOne 679 = .ok (.iload_n 2, 1) := by decide +kernel
theorem dL_refusesOne_680 : decode cL_refusesOne 680 = .ok (.iconst 0, 1) := by decide +kernel
theorem dL_refusesOne_681 : decode cL_refusesOne 681 = .ok (.iconst 0, 1) := by decide +kernel
theorem dL_refusesOne_682 : decode cL_refusesOne 682 = .ok (.invokestatic 161, 3) := by decide +kernel
theorem dL_refusesOne_685 : decode cL_refusesOne 685 = .ok (.sipush (-2011), 3) := by decide +kernel
theorem dL_refusesOne_688 : decode cL_refusesOne 688 = .ok (.if_icmp .ne 7, 3) := by decide +kernel
theorem dL_refusesOne_691 : decode cL_refusesOne 691 = .ok (.iconst 1, 1) := by decide +kernel
theorem dL_refusesOne_692 : decode cL_refusesOne 692 = .ok (.goto 4, 3) := by decide +kernel
theorem dL_refusesOne_695 : decode cL_refusesOne 695 = .ok (.iconst 0, 1) := by decide +kernel
theorem dL_refusesOne_696 : decode cL_refusesOne 696 = .ok (.ireturn, 1) := by decide +kernel
