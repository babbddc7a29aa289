/-! ===== the methods of the law: their instructions ===== -/
theorem dL_isEcho_77 : decode mL_isEcho.2.1 77 = .ok (.iload_n 3, 1) := by decide +kernel
theorem dL_isEcho_78 : decode mL_isEcho.2.1 78 = .ok (.ifCond .eq 17, 3) := by decide +kernel
theorem dL_isEcho_81 : decode mL_isEcho.2.1 81 = .ok (.aload_n 0, 1) := by decide +kernel
theorem dL_isEcho_82 : decode mL_isEcho.2.1 82 = .ok (.iload_n 1, 1) := by decide +kernel
theorem dL_isEcho_83 : decode mL_isEcho.2.1 83 = .ok (.iload_n 2, 1) := by decide +kernel
theorem dL_isEcho_84 : decode mL_isEcho.2.1 84 = .ok (.invokestatic 226, 3) := by decide +kernel
theorem dL_isEcho_87 : decode mL_isEcho.2.1 87 = .ok (.aload_n 0, 1) := by decide +kernel
theorem dL_isEcho_88 : decode mL_isEcho.2.1 88 = .ok (.iload_n 2, 1) := by decide +kernel
theorem dL_isEcho_89 : decode mL_isEcho.2.1 89 = .ok (.invokestatic 217, 3) := by decide +kernel
theorem dL_isEcho_92 : decode mL_isEcho.2.1 92 = .ok (.if_icmp .ne 20, 3) := by decide +kernel
theorem dL_isEcho_95 : decode mL_isEcho.2.1 95 = .ok (.aload_n 0, 1) := by decide +kernel
theorem dL_isEcho_96 : decode mL_isEcho.2.1 96 = .ok (.iload_n 1, 1) := by decide +kernel
theorem dL_isEcho_97 : decode mL_isEcho.2.1 97 = .ok (.iload_n 2, 1) := by decide +kernel
theorem dL_isEcho_98 : decode mL_isEcho.2.1 98 = .ok (.invokestatic 228, 3) := by decide +kernel
theorem dL_isEcho_101 : decode mL_isEcho.2.1 101 = .ok (.aload_n 0, 1) := by decide +kernel
theorem dL_isEcho_102 : decode mL_isEcho.2.1 102 = .ok (.invokevirtual 277, 3) := by decide +kernel
theorem dL_isEcho_105 : decode mL_isEcho.2.1 105 = .ok (.if_icmp .gt 7, 3) := by decide +kernel
theorem dL_isEcho_108 : decode mL_isEcho.2.1 108 = .ok (.iconst 1, 1) := by decide +kernel
theorem dL_isEcho_109 : decode mL_isEcho.2.1 109 = .ok (.goto 4, 3) := by decide +kernel
theorem dL_isEcho_112 : decode mL_isEcho.2.1 112 = .ok (.iconst 0, 1) := by decide +kernel
theorem dL_isEcho_113 : decode mL_isEcho.2.1 113 = .ok (.ireturn, 1) := by decide +kernel
theorem dL_isFewest_0 : decode mL_isFewest.2.1 0 = .ok (.iconst 1, 1) := by decide +kernel
theorem dL_isFewest_1 : decode mL_isFewest.2.1 1 = .ok (.istore_n 3, 1) := by decide +kernel
theorem dL_isFewest_2 : decode mL_isFewest.2.1 2 = .ok (.iconst 0, 1) := by decide +kernel
theorem dL_isFewest_3 : decode mL_isFewest.2.1 3 = .ok (.istore 4, 2) := by decide +kernel
theorem dL_isFewest_5 : decode mL_isFewest.2.1 5 = .ok (.iload 4, 2) := by decide +kernel
theorem dL_isFewest_7 : decode mL_isFewest.2.1 7 = .ok (.aload_n 0, 1) := by decide +kernel
theorem dL_isFewest_8 : decode mL_isFewest.2.1 8 = .ok (.iload_n 1, 1) := by decide +kernel
theorem dL_isFewest_9 : decode mL_isFewest.2.1 9 = .ok (.invokevirtual 58, 3) := by decide +kernel
theorem dL_isFewest_12 : decode mL_isFewest.2.1 12 = .ok (.if_icmp .ge 40, 3) := by decide +kernel
theorem dL_isFewest_15 : decode mL_isFewest.2.1 15 = .ok (.iload_n 3, 1) := by decide +kernel
theorem dL_isFewest_16 : decode mL_isFewest.2.1 16 = .ok (.ifCond .eq 28, 3) := by decide +kernel
theorem dL_isFewest_19 : decode mL_isFewest.2.1 19 = .ok (.aload_n 0, 1) := by decide +kernel
theorem dL_isFewest_20 : decode mL_isFewest.2.1 20 = .ok (.iload_n 1, 1) := by decide +kernel
theorem dL_isFewest_21 : decode mL_isFewest.2.1 21 = .ok (.iload_n 2, 1) := by decide +kernel
theorem dL_isFewest_22 : decode mL_isFewest.2.1 22 = .ok (.invokevirtual 76, 3) := by decide +kernel
theorem dL_isFewest_25 : decode mL_isFewest.2.1 25 = .ok (.aload_n 0, 1) := by decide +kernel
theorem dL_isFewest_26 : decode mL_isFewest.2.1 26 = .ok (.iload_n 1, 1) := by decide +kernel
theorem dL_isFewest_27 : decode mL_isFewest.2.1 27 = .ok (.aload_n 0, 1) := by decide +kernel
theorem dL_isFewest_28 : decode mL_isFewest.2.1 28 = .ok (.iload_n 1, 1) := by decide +kernel
theorem dL_isFewest_29 : decode mL_isFewest.2.1 29 = .ok (.iload 4, 2) := by decide +kernel
theorem dL_isFewest_31 : decode mL_isFewest.2.1 31 = .ok (.invokevirtual 61, 3) := by decide +kernel
theorem dL_isFewest_34 : decode mL_isFewest.2.1 34 = .ok (.invokevirtual 76, 3) := by decide +kernel
theorem dL_isFewest_37 : decode mL_isFewest.2.1 37 = .ok (.if_icmp .gt 7, 3) := by decide +kernel
theorem dL_isFewest_40 : decode mL_isFewest.2.1 40 = .ok (.iconst 1, 1) := by decide +kernel
theorem dL_isFewest_41 : decode mL_isFewest.2.1 41 = .ok (.goto 4, 3) := by decide +kernel
theorem dL_isFewest_44 : decode mL_isFewest.2.1 44 = .ok (.iconst 0, 1) := by decide +kernel
theorem dL_isFewest_45 : decode mL_isFewest.2.1 45 = .ok (.istore_n 3, 1) := by decide +kernel
theorem dL_isFewest_46 : decode mL_isFewest.2.1 46 = .ok (.iinc 4 1, 3) := by decide +kernel
theorem dL_isFewest_49 : decode mL_isFewest.2.1 49 = .ok (.goto (-44), 3) := by decide +kernel
theorem dL_isFewest_52 : decode mL_isFewest.2.1 52 = .ok (.iload_n 3, 1) := by decide +kernel
theorem dL_isFewest_53 : decode mL_isFewest.2.1 53 = .ok (.ireturn, 1) := by decide +kernel
theorem dL_warmings_0 : decode mL_warmings.2.1 0 = .ok (.aload_n 0, 1) := by decide +kernel
theorem dL_warmings_1 : decode mL_warmings.2.1 1 = .ok (.invokevirtual 280, 3) := by decide +kernel
theorem dL_warmings_4 : decode mL_warmings.2.1 4 = .ok (.istore_n 1, 1) := by decide +kernel
theorem dL_warmings_5 : decode mL_warmings.2.1 5 = .ok (.iconst 0, 1) := by decide +kernel
theorem dL_warmings_6 : decode mL_warmings.2.1 6 = .ok (.istore_n 2, 1) := by decide +kernel
theorem dL_warmings_7 : decode mL_warmings.2.1 7 = .ok (.iload_n 2, 1) := by decide +kernel
theorem dL_warmings_8 : decode mL_warmings.2.1 8 = .ok (.iload_n 1, 1) := by decide +kernel
theorem dL_warmings_9 : decode mL_warmings.2.1 9 = .ok (.if_icmp .ge 52, 3) := by decide +kernel
theorem dL_warmings_12 : decode mL_warmings.2.1 12 = .ok (.aload_n 0, 1) := by decide +kernel
theorem dL_warmings_13 : decode mL_warmings.2.1 13 = .ok (.iload_n 2, 1) := by decide +kernel
theorem dL_warmings_14 : decode mL_warmings.2.1 14 = .ok (.invokestatic 283, 3) := by decide +kernel
theorem dL_warmings_17 : decode mL_warmings.2.1 17 = .ok (.aload_n 0, 1) := by decide +kernel
theorem dL_warmings_18 : decode mL_warmings.2.1 18 = .ok (.invokevirtual 277, 3) := by decide +kernel
theorem dL_warmings_21 : decode mL_warmings.2.1 21 = .ok (.if_icmp .le 32, 3) := by decide +kernel
theorem dL_warmings_24 : decode mL_warmings.2.1 24 = .ok (.iload_n 2, 1) := by decide +kernel
theorem dL_warmings_25 : decode mL_warmings.2.1 25 = .ok (.ifCond .le 18, 3) := by decide +kernel
theorem dL_warmings_28 : decode mL_warmings.2.1 28 = .ok (.aload_n 0, 1) := by decide +kernel
theorem dL_warmings_29 : decode mL_warmings.2.1 29 = .ok (.iload_n 2, 1) := by decide +kernel
theorem dL_warmings_30 : decode mL_warmings.2.1 30 = .ok (.invokestatic 283, 3) := by decide +kernel
theorem dL_warmings_33 : decode mL_warmings.2.1 33 = .ok (.aload_n 0, 1) := by decide +kernel
theorem dL_warmings_34 : decode mL_warmings.2.1 34 = .ok (.iload_n 2, 1) := by decide +kernel
theorem dL_warmings_35 : decode mL_warmings.2.1 35 = .ok (.iconst 1, 1) := by decide +kernel
theorem dL_warmings_36 : decode mL_warmings.2.1 36 = .ok (.isub, 1) := by decide +kernel
theorem dL_warmings_37 : decode mL_warmings.2.1 37 = .ok (.invokestatic 283, 3) := by decide +kernel
theorem dL_warmings_40 : decode mL_warmings.2.1 40 = .ok (.if_icmp .lt 13, 3) := by decide +kernel
theorem dL_warmings_43 : decode mL_warmings.2.1 43 = .ok (.aload_n 0, 1) := by decide +kernel
theorem dL_warmings_44 : decode mL_warmings.2.1 44 = .ok (.iload_n 2, 1) := by decide +kernel
theorem dL_warmings_45 : decode mL_warmings.2.1 45 = .ok (.invokestatic 286, 3) := by decide +kernel
theorem dL_warmings_48 : decode mL_warmings.2.1 48 = .ok (.bipush 97, 2) := by decide +kernel
theorem dL_warmings_50 : decode mL_warmings.2.1 50 = .ok (.if_icmp .ge 5, 3) := by decide +kernel
theorem dL_warmings_53 : decode mL_warmings.2.1 53 = .ok (.iconst 0, 1) := by decide +kernel
theorem dL_warmings_54 : decode mL_warmings.2.1 54 = .ok (.ireturn, 1) := by decide +kernel
theorem dL_warmings_55 : decode mL_warmings.2.1 55 = .ok (.iinc 2 1, 3) := by decide +kernel
theorem dL_warmings_58 : decode mL_warmings.2.1 58 = .ok (.goto (-51), 3) := by decide +kernel
theorem dL_warmings_61 : decode mL_warmings.2.1 61 = .ok (.iconst 0, 1) := by decide +kernel
theorem dL_warmings_62 : decode mL_warmings.2.1 62 = .ok (.istore_n 2, 1) := by decide +kernel
theorem dL_warmings_63 : decode mL_warmings.2.1 63 = .ok (.aload_n 0, 1) := by decide +kernel
theorem dL_warmings_64 : decode mL_warmings.2.1 64 = .ok (.invokevirtual 289, 3) := by decide +kernel
theorem dL_warmings_67 : decode mL_warmings.2.1 67 = .ok (.aload_n 0, 1) := by decide +kernel
theorem dL_warmings_68 : decode mL_warmings.2.1 68 = .ok (.bipush 99, 2) := by decide +kernel
theorem dL_warmings_70 : decode mL_warmings.2.1 70 = .ok (.invokestatic 292, 3) := by decide +kernel
theorem dL_warmings_73 : decode mL_warmings.2.1 73 = .ok (.iadd, 1) := by decide +kernel
theorem dL_warmings_74 : decode mL_warmings.2.1 74 = .ok (.aload_n 0, 1) := by decide +kernel
theorem dL_warmings_75 : decode mL_warmings.2.1 75 = .ok (.bipush 101, 2) := by decide +kernel
theorem dL_warmings_77 : decode mL_warmings.2.1 77 = .ok (.invokestatic 292, 3) := by decide +kernel
theorem dL_warmings_80 : decode mL_warmings.2.1 80 = .ok (.iadd, 1) := by decide +kernel
theorem dL_warmings_81 : decode mL_warmings.2.1 81 = .ok (.aload_n 0, 1) := by decide +kernel
theorem dL_warmings_82 : decode mL_warmings.2.1 82 = .ok (.bipush 111, 2) := by decide +kernel
theorem dL_warmings_84 : decode mL_warmings.2.1 84 = .ok (.invokestatic 292, 3) := by decide +kernel
theorem dL_warmings_87 : decode mL_warmings.2.1 87 = .ok (.iadd, 1) := by decide +kernel
theorem dL_warmings_88 : decode mL_warmings.2.1 88 = .ok (.istore_n 3, 1) := by decide +kernel
theorem dL_warmings_89 : decode mL_warmings.2.1 89 = .ok (.iconst 0, 1) := by decide +kernel
theorem dL_warmings_90 : decode mL_warmings.2.1 90 = .ok (.istore 4, 2) := by decide +kernel
theorem dL_warmings_92 : decode mL_warmings.2.1 92 = .ok (.iload 4, 2) := by decide +kernel
theorem dL_warmings_94 : decode mL_warmings.2.1 94 = .ok (.aload_n 0, 1) := by decide +kernel
theorem dL_warmings_95 : decode mL_warmings.2.1 95 = .ok (.invokevirtual 221, 3) := by decide +kernel
theorem dL_warmings_98 : decode mL_warmings.2.1 98 = .ok (.if_icmp .ge 20, 3) := by decide +kernel
theorem dL_warmings_101 : decode mL_warmings.2.1 101 = .ok (.iload_n 2, 1) := by decide +kernel
theorem dL_warmings_102 : decode mL_warmings.2.1 102 = .ok (.iconst 1, 1) := by decide +kernel
theorem dL_warmings_103 : decode mL_warmings.2.1 103 = .ok (.aload_n 0, 1) := by decide +kernel
theorem dL_warmings_104 : decode mL_warmings.2.1 104 = .ok (.iload 4, 2) := by decide +kernel
theorem dL_warmings_106 : decode mL_warmings.2.1 106 = .ok (.invokestatic 294, 3) := by decide +kernel
theorem dL_warmings_109 : decode mL_warmings.2.1 109 = .ok (.ishl, 1) := by decide +kernel
theorem dL_warmings_110 : decode mL_warmings.2.1 110 = .ok (.ior, 1) := by decide +kernel
theorem dL_warmings_111 : decode mL_warmings.2.1 111 = .ok (.istore_n 2, 1) := by decide +kernel
theorem dL_warmings_112 : decode mL_warmings.2.1 112 = .ok (.iinc 4 1, 3) := by decide +kernel
theorem dL_warmings_115 : decode mL_warmings.2.1 115 = .ok (.goto (-23), 3) := by decide +kernel
theorem dL_warmings_118 : decode mL_warmings.2.1 118 = .ok (.iload_n 3, 1) := by decide +kernel
theorem dL_warmings_119 : decode mL_warmings.2.1 119 = .ok (.ifCond .eq 19, 3) := by decide +kernel
theorem dL_warmings_122 : decode mL_warmings.2.1 122 = .ok (.aload_n 0, 1) := by decide +kernel
theorem dL_warmings_123 : decode mL_warmings.2.1 123 = .ok (.invokevirtual 297, 3) := by decide +kernel
theorem dL_warmings_126 : decode mL_warmings.2.1 126 = .ok (.aload_n 0, 1) := by decide +kernel
theorem dL_warmings_127 : decode mL_warmings.2.1 127 = .ok (.invokevirtual 289, 3) := by decide +kernel
theorem dL_warmings_130 : decode mL_warmings.2.1 130 = .ok (.i2f, 1) := by decide +kernel
theorem dL_warmings_131 : decode mL_warmings.2.1 131 = .ok (.iload_n 3, 1) := by decide +kernel
theorem dL_warmings_132 : decode mL_warmings.2.1 132 = .ok (.i2f, 1) := by decide +kernel
theorem dL_warmings_133 : decode mL_warmings.2.1 133 = .ok (.fdiv, 1) := by decide +kernel
theorem dL_warmings_134 : decode mL_warmings.2.1 134 = .ok (.fcmp .l, 1) := by decide +kernel
theorem dL_warmings_135 : decode mL_warmings.2.1 135 = .ok (.ifCond .ne 7, 3) := by decide +kernel
theorem dL_warmings_138 : decode mL_warmings.2.1 138 = .ok (.iconst 1, 1) := by decide +kernel
theorem dL_warmings_139 : decode mL_warmings.2.1 139 = .ok (.goto 4, 3) := by decide +kernel
theorem dL_warmings_142 : decode mL_warmings.2.1 142 = .ok (.iconst 0, 1) := by decide +kernel
theorem dL_warmings_143 : decode mL_warmings.2.1 143 = .ok (.istore 4, 2) := by decide +kernel
theorem dL_warmings_145 : decode mL_warmings.2.1 145 = .ok (.iload 4, 2) := by decide +kernel
theorem dL_warmings_147 : decode mL_warmings.2.1 147 = .ok (.ifCond .eq 69, 3) := by decide +kernel
theorem dL_warmings_150 : decode mL_warmings.2.1 150 = .ok (.iload_n 2, 1) := by decide +kernel
theorem dL_warmings_151 : decode mL_warmings.2.1 151 = .ok (.iconst 1, 1) := by decide +kernel
theorem dL_warmings_152 : decode mL_warmings.2.1 152 = .ok (.aload_n 0, 1) := by decide +kernel
theorem dL_warmings_153 : decode mL_warmings.2.1 153 = .ok (.invokevirtual 221, 3) := by decide +kernel
theorem dL_warmings_156 : decode mL_warmings.2.1 156 = .ok (.ishl, 1) := by decide +kernel
theorem dL_warmings_157 : decode mL_warmings.2.1 157 = .ok (.iconst 1, 1) := by decide +kernel
theorem dL_warmings_158 : decode mL_warmings.2.1 158 = .ok (.isub, 1) := by decide +kernel
theorem dL_warmings_159 : decode mL_warmings.2.1 159 = .ok (.if_icmp .ne 57, 3) := by decide +kernel
theorem dL_warmings_162 : decode mL_warmings.2.1 162 = .ok (.iload_n 1, 1) := by decide +kernel
theorem dL_warmings_163 : decode mL_warmings.2.1 163 = .ok (.bipush 8, 2) := by decide +kernel
theorem dL_warmings_165 : decode mL_warmings.2.1 165 = .ok (.if_icmp .gt 51, 3) := by decide +kernel
theorem dL_warmings_168 : decode mL_warmings.2.1 168 = .ok (.aload_n 0, 1) := by decide +kernel
theorem dL_warmings_169 : decode mL_warmings.2.1 169 = .ok (.iload_n 1, 1) := by decide +kernel
theorem dL_warmings_170 : decode mL_warmings.2.1 170 = .ok (.invokestatic 283, 3) := by decide +kernel
theorem dL_warmings_173 : decode mL_warmings.2.1 173 = .ok (.bipush (-11), 2) := by decide +kernel
theorem dL_warmings_175 : decode mL_warmings.2.1 175 = .ok (.if_icmp .ne 41, 3) := by decide +kernel
theorem dL_warmings_178 : decode mL_warmings.2.1 178 = .ok (.aload_n 0, 1) := by decide +kernel
theorem dL_warmings_179 : decode mL_warmings.2.1 179 = .ok (.iconst (-1), 1) := by decide +kernel
theorem dL_warmings_180 : decode mL_warmings.2.1 180 = .ok (.invokestatic 286, 3) := by decide +kernel
theorem dL_warmings_183 : decode mL_warmings.2.1 183 = .ok (.bipush (-11), 2) := by decide +kernel
theorem dL_warmings_185 : decode mL_warmings.2.1 185 = .ok (.if_icmp .ne 31, 3) := by decide +kernel
theorem dL_warmings_188 : decode mL_warmings.2.1 188 = .ok (.aload_n 0, 1) := by decide +kernel
theorem dL_warmings_189 : decode mL_warmings.2.1 189 = .ok (.bipush 104, 2) := by decide +kernel
theorem dL_warmings_191 : decode mL_warmings.2.1 191 = .ok (.invokestatic 292, 3) := by decide +kernel
theorem dL_warmings_194 : decode mL_warmings.2.1 194 = .ok (.bipush (-12), 2) := by decide +kernel
theorem dL_warmings_196 : decode mL_warmings.2.1 196 = .ok (.if_icmp .ne 20, 3) := by decide +kernel
theorem dL_warmings_199 : decode mL_warmings.2.1 199 = .ok (.aload_n 0, 1) := by decide +kernel
theorem dL_warmings_200 : decode mL_warmings.2.1 200 = .ok (.aload_n 0, 1) := by decide +kernel
theorem dL_warmings_201 : decode mL_warmings.2.1 201 = .ok (.invokevirtual 221, 3) := by decide +kernel
theorem dL_warmings_204 : decode mL_warmings.2.1 204 = .ok (.invokestatic 294, 3) := by decide +kernel
theorem dL_warmings_207 : decode mL_warmings.2.1 207 = .ok (.bipush (-13), 2) := by decide +kernel
theorem dL_warmings_209 : decode mL_warmings.2.1 209 = .ok (.if_icmp .ne 7, 3) := by decide +kernel
theorem dL_warmings_212 : decode mL_warmings.2.1 212 = .ok (.iconst 1, 1) := by decide +kernel
theorem dL_warmings_213 : decode mL_warmings.2.1 213 = .ok (.goto 4, 3) := by decide +kernel
theorem dL_warmings_216 : decode mL_warmings.2.1 216 = .ok (.iconst 0, 1) := by decide +kernel
theorem dL_warmings_217 : decode mL_warmings.2.1 217 = .ok (.ireturn, 1) := by decide +kernel
theorem dL_spells_0 : decode mL_spells.2.1 0 = .ok (.iload_n 1, 1) := by decide +kernel
theorem dL_spells_1 : decode mL_spells.2.1 1 = .ok (.aload_n 2, 1) := by decide +kernel
theorem dL_spells_2 : decode mL_spells.2.1 2 = .ok (.invokevirtual 148, 3) := by decide +kernel
theorem dL_spells_5 : decode mL_spells.2.1 5 = .ok (.if_icmp .ne 7, 3) := by decide +kernel
theorem dL_spells_8 : decode mL_spells.2.1 8 = .ok (.iconst 1, 1) := by decide +kernel
theorem dL_spells_9 : decode mL_spells.2.1 9 = .ok (.goto 4, 3) := by decide +kernel
theorem dL_spells_12 : decode mL_spells.2.1 12 = .ok (.iconst 0, 1) := by decide +kernel
theorem dL_spells_13 : decode mL_spells.2.1 13 = .ok (.istore_n 3, 1) := by decide +kernel
theorem dL_spells_14 : decode mL_spells.2.1 14 = .ok (.iconst 0, 1) := by decide +kernel
theorem dL_spells_15 : decode mL_spells.2.1 15 = .ok (.istore 4, 2) := by decide +kernel
theorem dL_spells_17 : decode mL_spells.2.1 17 = .ok (.iload 4, 2) := by decide +kernel
theorem dL_spells_19 : decode mL_spells.2.1 19 = .ok (.aload_n 2, 1) := by decide +kernel
theorem dL_spells_20 : decode mL_spells.2.1 20 = .ok (.invokevirtual 148, 3) := by decide +kernel
theorem dL_spells_23 : decode mL_spells.2.1 23 = .ok (.if_icmp .ge 34, 3) := by decide +kernel
theorem dL_spells_26 : decode mL_spells.2.1 26 = .ok (.iload_n 3, 1) := by decide +kernel
theorem dL_spells_27 : decode mL_spells.2.1 27 = .ok (.ifCond .eq 30, 3) := by decide +kernel
theorem dL_spells_30 : decode mL_spells.2.1 30 = .ok (.aload_n 0, 1) := by decide +kernel
theorem dL_spells_31 : decode mL_spells.2.1 31 = .ok (.iload 4, 2) := by decide +kernel
theorem dL_spells_33 : decode mL_spells.2.1 33 = .ok (.invokestatic 301, 3) := by decide +kernel
theorem dL_spells_36 : decode mL_spells.2.1 36 = .ok (.aload_n 2, 1) := by decide +kernel
theorem dL_spells_37 : decode mL_spells.2.1 37 = .ok (.iload 4, 2) := by decide +kernel
theorem dL_spells_39 : decode mL_spells.2.1 39 = .ok (.invokevirtual 153, 3) := by decide +kernel
theorem dL_spells_42 : decode mL_spells.2.1 42 = .ok (.if_icmp .ne 7, 3) := by decide +kernel
theorem dL_spells_45 : decode mL_spells.2.1 45 = .ok (.iconst 1, 1) := by decide +kernel
theorem dL_spells_46 : decode mL_spells.2.1 46 = .ok (.goto 4, 3) := by decide +kernel
theorem dL_spells_49 : decode mL_spells.2.1 49 = .ok (.iconst 0, 1) := by decide +kernel
theorem dL_spells_50 : decode mL_spells.2.1 50 = .ok (.istore_n 3, 1) := by decide +kernel
theorem dL_spells_51 : decode mL_spells.2.1 51 = .ok (.iinc 4 1, 3) := by decide +kernel
theorem dL_spells_54 : decode mL_spells.2.1 54 = .ok (.goto (-37), 3) := by decide +kernel
theorem dL_spells_57 : decode mL_spells.2.1 57 = .ok (.iload_n 3, 1) := by decide +kernel
theorem dL_spells_58 : decode mL_spells.2.1 58 = .ok (.ifCond .eq 17, 3) := by decide +kernel
theorem dL_spells_61 : decode mL_spells.2.1 61 = .ok (.aload_n 0, 1) := by decide +kernel
theorem dL_spells_62 : decode mL_spells.2.1 62 = .ok (.iload_n 1, 1) := by decide +kernel
theorem dL_spells_63 : decode mL_spells.2.1 63 = .ok (.invokestatic 301, 3) := by decide +kernel
theorem dL_spells_66 : decode mL_spells.2.1 66 = .ok (.bipush (-11), 2) := by decide +kernel
theorem dL_spells_68 : decode mL_spells.2.1 68 = .ok (.if_icmp .ne 7, 3) := by decide +kernel
theorem dL_spells_71 : decode mL_spells.2.1 71 = .ok (.iconst 1, 1) := by decide +kernel
theorem dL_spells_72 : decode mL_spells.2.1 72 = .ok (.goto 4, 3) := by decide +kernel
theorem dL_spells_75 : decode mL_spells.2.1 75 = .ok (.iconst 0, 1) := by decide +kernel
theorem dL_spells_76 : decode mL_spells.2.1 76 = .ok (.ireturn, 1) := by decide +kernel
theorem dL_lines_0 : decode mL_lines.2.1 0 = .ok (.iconst 0, 1) := by decide +kernel
theorem dL_lines_1 : decode mL_lines.2.1 1 = .ok (.istore_n 1, 1) := by decide +kernel
theorem dL_lines_2 : decode mL_lines.2.1 2 = .ok (.iload_n 1, 1) := by decide +kernel
theorem dL_lines_3 : decode mL_lines.2.1 3 = .ok (.aload_n 0, 1) := by decide +kernel
theorem dL_lines_4 : decode mL_lines.2.1 4 = .ok (.invokevirtual 221, 3) := by decide +kernel
theorem dL_lines_7 : decode mL_lines.2.1 7 = .ok (.if_icmp .ge 143, 3) := by decide +kernel
theorem dL_lines_10 : decode mL_lines.2.1 10 = .ok (.ldc_w 303, 3) := by decide +kernel
theorem dL_lines_13 : decode mL_lines.2.1 13 = .ok (.astore_n 2, 1) := by decide +kernel
theorem dL_lines_14 : decode mL_lines.2.1 14 = .ok (.iconst 0, 1) := by decide +kernel
theorem dL_lines_15 : decode mL_lines.2.1 15 = .ok (.istore_n 3, 1) := by decide +kernel
theorem dL_lines_16 : decode mL_lines.2.1 16 = .ok (.iload_n 3, 1) := by decide +kernel
theorem dL_lines_17 : decode mL_lines.2.1 17 = .ok (.aload_n 0, 1) := by decide +kernel
theorem dL_lines_18 : decode mL_lines.2.1 18 = .ok (.iload_n 1, 1) := by decide +kernel
theorem dL_lines_19 : decode mL_lines.2.1 19 = .ok (.invokevirtual 58, 3) := by decide +kernel
theorem dL_lines_22 : decode mL_lines.2.1 22 = .ok (.if_icmp .ge 107, 3) := by decide +kernel
theorem dL_lines_25 : decode mL_lines.2.1 25 = .ok (.aload_n 0, 1) := by decide +kernel
theorem dL_lines_26 : decode mL_lines.2.1 26 = .ok (.iload_n 1, 1) := by decide +kernel
theorem dL_lines_27 : decode mL_lines.2.1 27 = .ok (.iload_n 3, 1) := by decide +kernel
theorem dL_lines_28 : decode mL_lines.2.1 28 = .ok (.invokevirtual 61, 3) := by decide +kernel
theorem dL_lines_31 : decode mL_lines.2.1 31 = .ok (.istore 4, 2) := by decide +kernel
theorem dL_lines_33 : decode mL_lines.2.1 33 = .ok (.new 305, 3) := by decide +kernel
theorem dL_lines_36 : decode mL_lines.2.1 36 = .ok (.dup, 1) := by decide +kernel
theorem dL_lines_37 : decode mL_lines.2.1 37 = .ok (.invokespecial 307, 3) := by decide +kernel
theorem dL_lines_40 : decode mL_lines.2.1 40 = .ok (.aload_n 2, 1) := by decide +kernel
theorem dL_lines_41 : decode mL_lines.2.1 41 = .ok (.invokevirtual 308, 3) := by decide +kernel
theorem dL_lines_44 : decode mL_lines.2.1 44 = .ok (.iload_n 3, 1) := by decide +kernel
theorem dL_lines_45 : decode mL_lines.2.1 45 = .ok (.ifCond .ne 9, 3) := by decide +kernel
theorem dL_lines_48 : decode mL_lines.2.1 48 = .ok (.ldc_w 303, 3) := by decide +kernel
theorem dL_lines_51 : decode mL_lines.2.1 51 = .ok (.goto 6, 3) := by decide +kernel
theorem dL_lines_54 : decode mL_lines.2.1 54 = .ok (.ldc_w 312, 3) := by decide +kernel
theorem dL_lines_57 : decode mL_lines.2.1 57 = .ok (.invokevirtual 308, 3) := by decide +kernel
theorem dL_lines_60 : decode mL_lines.2.1 60 = .ok (.iload 4, 2) := by decide +kernel
theorem dL_lines_62 : decode mL_lines.2.1 62 = .ok (.invokevirtual 314, 3) := by decide +kernel
theorem dL_lines_65 : decode mL_lines.2.1 65 = .ok (.aload_n 0, 1) := by decide +kernel
theorem dL_lines_66 : decode mL_lines.2.1 66 = .ok (.iload_n 1, 1) := by decide +kernel
theorem dL_lines_67 : decode mL_lines.2.1 67 = .ok (.iload 4, 2) := by decide +kernel
theorem dL_lines_69 : decode mL_lines.2.1 69 = .ok (.invokevirtual 69, 3) := by decide +kernel
theorem dL_lines_72 : decode mL_lines.2.1 72 = .ok (.invokevirtual 317, 3) := by decide +kernel
theorem dL_lines_75 : decode mL_lines.2.1 75 = .ok (.aload_n 0, 1) := by decide +kernel
theorem dL_lines_76 : decode mL_lines.2.1 76 = .ok (.iload_n 1, 1) := by decide +kernel
theorem dL_lines_77 : decode mL_lines.2.1 77 = .ok (.iload 4, 2) := by decide +kernel
theorem dL_lines_79 : decode mL_lines.2.1 79 = .ok (.invokevirtual 79, 3) := by decide +kernel
theorem dL_lines_82 : decode mL_lines.2.1 82 = .ok (.ifCond .eq 9, 3) := by decide +kernel
theorem dL_lines_85 : decode mL_lines.2.1 85 = .ok (.ldc_w 320, 3) := by decide +kernel
theorem dL_lines_88 : decode mL_lines.2.1 88 = .ok (.goto 6, 3) := by decide +kernel
theorem dL_lines_91 : decode mL_lines.2.1 91 = .ok (.ldc_w 303, 3) := by decide +kernel
theorem dL_lines_94 : decode mL_lines.2.1 94 = .ok (.invokevirtual 308, 3) := by decide +kernel
theorem dL_lines_97 : decode mL_lines.2.1 97 = .ok (.aload_n 0, 1) := by decide +kernel
theorem dL_lines_98 : decode mL_lines.2.1 98 = .ok (.iload_n 1, 1) := by decide +kernel
theorem dL_lines_99 : decode mL_lines.2.1 99 = .ok (.iload 4, 2) := by decide +kernel
theorem dL_lines_101 : decode mL_lines.2.1 101 = .ok (.invokevirtual 82, 3) := by decide +kernel
theorem dL_lines_104 : decode mL_lines.2.1 104 = .ok (.ifCond .eq 9, 3) := by decide +kernel
theorem dL_lines_107 : decode mL_lines.2.1 107 = .ok (.ldc_w 322, 3) := by decide +kernel
theorem dL_lines_110 : decode mL_lines.2.1 110 = .ok (.goto 6, 3) := by decide +kernel
theorem dL_lines_113 : decode mL_lines.2.1 113 = .ok (.ldc_w 303, 3) := by decide +kernel
theorem dL_lines_116 : decode mL_lines.2.1 116 = .ok (.invokevirtual 308, 3) := by decide +kernel
theorem dL_lines_119 : decode mL_lines.2.1 119 = .ok (.invokevirtual 324, 3) := by decide +kernel
theorem dL_lines_122 : decode mL_lines.2.1 122 = .ok (.astore_n 2, 1) := by decide +kernel
theorem dL_lines_123 : decode mL_lines.2.1 123 = .ok (.iinc 3 1, 3) := by decide +kernel
theorem dL_lines_126 : decode mL_lines.2.1 126 = .ok (.goto (-110), 3) := by decide +kernel
theorem dL_lines_129 : decode mL_lines.2.1 129 = .ok (.aload_n 0, 1) := by decide +kernel
theorem dL_lines_130 : decode mL_lines.2.1 130 = .ok (.aload_n 0, 1) := by decide +kernel
theorem dL_lines_131 : decode mL_lines.2.1 131 = .ok (.iload_n 1, 1) := by decide +kernel
theorem dL_lines_132 : decode mL_lines.2.1 132 = .ok (.invokestatic 328, 3) := by decide +kernel
theorem dL_lines_135 : decode mL_lines.2.1 135 = .ok (.aload_n 2, 1) := by decide +kernel
theorem dL_lines_136 : decode mL_lines.2.1 136 = .ok (.invokestatic 330, 3) := by decide +kernel
theorem dL_lines_139 : decode mL_lines.2.1 139 = .ok (.ifCond .ne 5, 3) := by decide +kernel
theorem dL_lines_142 : decode mL_lines.2.1 142 = .ok (.iconst 0, 1) := by decide +kernel
theorem dL_lines_143 : decode mL_lines.2.1 143 = .ok (.ireturn, 1) := by decide +kernel
theorem dL_lines_144 : decode mL_lines.2.1 144 = .ok (.iinc 1 1, 3) := by decide +kernel
theorem dL_lines_147 : decode mL_lines.2.1 147 = .ok (.goto (-145), 3) := by decide +kernel
theorem dL_lines_150 : decode mL_lines.2.1 150 = .ok (.aload_n 0, 1) := by decide +kernel
theorem dL_lines_151 : decode mL_lines.2.1 151 = .ok (.aload_n 0, 1) := by decide +kernel
theorem dL_lines_152 : decode mL_lines.2.1 152 = .ok (.invokevirtual 221, 3) := by decide +kernel
theorem dL_lines_155 : decode mL_lines.2.1 155 = .ok (.invokestatic 328, 3) := by decide +kernel
theorem dL_lines_158 : decode mL_lines.2.1 158 = .ok (.bipush (-11), 2) := by decide +kernel
theorem dL_lines_160 : decode mL_lines.2.1 160 = .ok (.if_icmp .ne 17, 3) := by decide +kernel
theorem dL_lines_163 : decode mL_lines.2.1 163 = .ok (.aload_n 0, 1) := by decide +kernel
theorem dL_lines_164 : decode mL_lines.2.1 164 = .ok (.iconst (-1), 1) := by decide +kernel
theorem dL_lines_165 : decode mL_lines.2.1 165 = .ok (.invokestatic 328, 3) := by decide +kernel
theorem dL_lines_168 : decode mL_lines.2.1 168 = .ok (.bipush (-11), 2) := by decide +kernel
theorem dL_lines_170 : decode mL_lines.2.1 170 = .ok (.if_icmp .ne 7, 3) := by decide +kernel
theorem dL_lines_173 : decode mL_lines.2.1 173 = .ok (.iconst 1, 1) := by decide +kernel
theorem dL_lines_174 : decode mL_lines.2.1 174 = .ok (.goto 4, 3) := by decide +kernel
theorem dL_lines_177 : decode mL_lines.2.1 177 = .ok (.iconst 0, 1) := by decide +kernel
theorem dL_lines_178 : decode mL_lines.2.1 178 = .ok (.ireturn, 1) := by decide +kernel
theorem dL_sum_0 : decode mL_sum.2.1 0 = .ok (.ldc2_w 334, 3) := by decide +kernel
theorem dL_sum_3 : decode mL_sum.2.1 3 = .ok (.aload_n 0, 1) := by decide +kernel
theorem dL_sum_4 : decode mL_sum.2.1 4 = .ok (.invokevirtual 277, 3) := by decide +kernel
theorem dL_sum_7 : decode mL_sum.2.1 7 = .ok (.i2l, 1) := by decide +kernel
theorem dL_sum_8 : decode mL_sum.2.1 8 = .ok (.ladd, 1) := by decide +kernel
theorem dL_sum_9 : decode mL_sum.2.1 9 = .ok (.lstore_n 1, 1) := by decide +kernel
theorem dL_sum_10 : decode mL_sum.2.1 10 = .ok (.ldc2_w 336, 3) := by decide +kernel
theorem dL_sum_13 : decode mL_sum.2.1 13 = .ok (.lload_n 1, 1) := by decide +kernel
theorem dL_sum_14 : decode mL_sum.2.1 14 = .ok (.lmul, 1) := by decide +kernel
theorem dL_sum_15 : decode mL_sum.2.1 15 = .ok (.aload_n 0, 1) := by decide +kernel
theorem dL_sum_16 : decode mL_sum.2.1 16 = .ok (.invokevirtual 289, 3) := by decide +kernel
theorem dL_sum_19 : decode mL_sum.2.1 19 = .ok (.i2l, 1) := by decide +kernel
theorem dL_sum_20 : decode mL_sum.2.1 20 = .ok (.ladd, 1) := by decide +kernel
theorem dL_sum_21 : decode mL_sum.2.1 21 = .ok (.lstore_n 1, 1) := by decide +kernel
theorem dL_sum_22 : decode mL_sum.2.1 22 = .ok (.ldc2_w 336, 3) := by decide +kernel
theorem dL_sum_25 : decode mL_sum.2.1 25 = .ok (.lload_n 1, 1) := by decide +kernel
theorem dL_sum_26 : decode mL_sum.2.1 26 = .ok (.lmul, 1) := by decide +kernel
theorem dL_sum_27 : decode mL_sum.2.1 27 = .ok (.sipush 1000, 3) := by decide +kernel
theorem dL_sum_30 : decode mL_sum.2.1 30 = .ok (.aload_n 0, 1) := by decide +kernel
theorem dL_sum_31 : decode mL_sum.2.1 31 = .ok (.bipush 99, 2) := by decide +kernel
theorem dL_sum_33 : decode mL_sum.2.1 33 = .ok (.invokevirtual 120, 3) := by decide +kernel
theorem dL_sum_36 : decode mL_sum.2.1 36 = .ok (.imul, 1) := by decide +kernel
theorem dL_sum_37 : decode mL_sum.2.1 37 = .ok (.i2l, 1) := by decide +kernel
theorem dL_sum_38 : decode mL_sum.2.1 38 = .ok (.ladd, 1) := by decide +kernel
theorem dL_sum_39 : decode mL_sum.2.1 39 = .ok (.bipush 30, 2) := by decide +kernel
theorem dL_sum_41 : decode mL_sum.2.1 41 = .ok (.aload_n 0, 1) := by decide +kernel
theorem dL_sum_42 : decode mL_sum.2.1 42 = .ok (.bipush 101, 2) := by decide +kernel
theorem dL_sum_44 : decode mL_sum.2.1 44 = .ok (.invokevirtual 120, 3) := by decide +kernel
theorem dL_sum_47 : decode mL_sum.2.1 47 = .ok (.imul, 1) := by decide +kernel
theorem dL_sum_48 : decode mL_sum.2.1 48 = .ok (.i2l, 1) := by decide +kernel
theorem dL_sum_49 : decode mL_sum.2.1 49 = .ok (.ladd, 1) := by decide +kernel
theorem dL_sum_50 : decode mL_sum.2.1 50 = .ok (.aload_n 0, 1) := by decide +kernel
theorem dL_sum_51 : decode mL_sum.2.1 51 = .ok (.bipush 111, 2) := by decide +kernel
theorem dL_sum_53 : decode mL_sum.2.1 53 = .ok (.invokevirtual 120, 3) := by decide +kernel
theorem dL_sum_56 : decode mL_sum.2.1 56 = .ok (.i2l, 1) := by decide +kernel
theorem dL_sum_57 : decode mL_sum.2.1 57 = .ok (.ladd, 1) := by decide +kernel
theorem dL_sum_58 : decode mL_sum.2.1 58 = .ok (.lstore_n 1, 1) := by decide +kernel
theorem dL_sum_59 : decode mL_sum.2.1 59 = .ok (.iconst 0, 1) := by decide +kernel
theorem dL_sum_60 : decode mL_sum.2.1 60 = .ok (.istore_n 3, 1) := by decide +kernel
theorem dL_sum_61 : decode mL_sum.2.1 61 = .ok (.iload_n 3, 1) := by decide +kernel
theorem dL_sum_62 : decode mL_sum.2.1 62 = .ok (.aload_n 0, 1) := by decide +kernel
theorem dL_sum_63 : decode mL_sum.2.1 63 = .ok (.invokevirtual 214, 3) := by decide +kernel
theorem dL_sum_66 : decode mL_sum.2.1 66 = .ok (.if_icmp .ge 37, 3) := by decide +kernel
theorem dL_sum_69 : decode mL_sum.2.1 69 = .ok (.ldc2_w 338, 3) := by decide +kernel
theorem dL_sum_72 : decode mL_sum.2.1 72 = .ok (.lload_n 1, 1) := by decide +kernel
theorem dL_sum_73 : decode mL_sum.2.1 73 = .ok (.lmul, 1) := by decide +kernel
theorem dL_sum_74 : decode mL_sum.2.1 74 = .ok (.sipush 200, 3) := by decide +kernel
theorem dL_sum_77 : decode mL_sum.2.1 77 = .ok (.aload_n 0, 1) := by decide +kernel
theorem dL_sum_78 : decode mL_sum.2.1 78 = .ok (.iload_n 3, 1) := by decide +kernel
theorem dL_sum_79 : decode mL_sum.2.1 79 = .ok (.invokevirtual 27, 3) := by decide +kernel
theorem dL_sum_82 : decode mL_sum.2.1 82 = .ok (.imul, 1) := by decide +kernel
theorem dL_sum_83 : decode mL_sum.2.1 83 = .ok (.i2l, 1) := by decide +kernel
theorem dL_sum_84 : decode mL_sum.2.1 84 = .ok (.ladd, 1) := by decide +kernel
theorem dL_sum_85 : decode mL_sum.2.1 85 = .ok (.aload_n 0, 1) := by decide +kernel
theorem dL_sum_86 : decode mL_sum.2.1 86 = .ok (.aload_n 0, 1) := by decide +kernel
theorem dL_sum_87 : decode mL_sum.2.1 87 = .ok (.iload_n 3, 1) := by decide +kernel
theorem dL_sum_88 : decode mL_sum.2.1 88 = .ok (.invokevirtual 27, 3) := by decide +kernel
theorem dL_sum_91 : decode mL_sum.2.1 91 = .ok (.invokevirtual 33, 3) := by decide +kernel
theorem dL_sum_94 : decode mL_sum.2.1 94 = .ok (.i2l, 1) := by decide +kernel
theorem dL_sum_95 : decode mL_sum.2.1 95 = .ok (.ladd, 1) := by decide +kernel
theorem dL_sum_96 : decode mL_sum.2.1 96 = .ok (.lstore_n 1, 1) := by decide +kernel
theorem dL_sum_97 : decode mL_sum.2.1 97 = .ok (.iinc 3 1, 3) := by decide +kernel
theorem dL_sum_100 : decode mL_sum.2.1 100 = .ok (.goto (-39), 3) := by decide +kernel
theorem dL_sum_103 : decode mL_sum.2.1 103 = .ok (.iconst 0, 1) := by decide +kernel
theorem dL_sum_104 : decode mL_sum.2.1 104 = .ok (.istore_n 3, 1) := by decide +kernel
theorem dL_sum_105 : decode mL_sum.2.1 105 = .ok (.iload_n 3, 1) := by decide +kernel
theorem dL_sum_106 : decode mL_sum.2.1 106 = .ok (.aload_n 0, 1) := by decide +kernel
theorem dL_sum_107 : decode mL_sum.2.1 107 = .ok (.invokevirtual 221, 3) := by decide +kernel
theorem dL_sum_110 : decode mL_sum.2.1 110 = .ok (.if_icmp .ge 189, 3) := by decide +kernel
theorem dL_sum_113 : decode mL_sum.2.1 113 = .ok (.ldc2_w 340, 3) := by decide +kernel
theorem dL_sum_116 : decode mL_sum.2.1 116 = .ok (.lload_n 1, 1) := by decide +kernel
theorem dL_sum_117 : decode mL_sum.2.1 117 = .ok (.lmul, 1) := by decide +kernel
theorem dL_sum_118 : decode mL_sum.2.1 118 = .ok (.sipush 1000, 3) := by decide +kernel
theorem dL_sum_121 : decode mL_sum.2.1 121 = .ok (.aload_n 0, 1) := by decide +kernel
theorem dL_sum_122 : decode mL_sum.2.1 122 = .ok (.iload_n 3, 1) := by decide +kernel
theorem dL_sum_123 : decode mL_sum.2.1 123 = .ok (.invokevirtual 44, 3) := by decide +kernel
theorem dL_sum_126 : decode mL_sum.2.1 126 = .ok (.imul, 1) := by decide +kernel
theorem dL_sum_127 : decode mL_sum.2.1 127 = .ok (.i2l, 1) := by decide +kernel
theorem dL_sum_128 : decode mL_sum.2.1 128 = .ok (.ladd, 1) := by decide +kernel
theorem dL_sum_129 : decode mL_sum.2.1 129 = .ok (.bipush 10, 2) := by decide +kernel
theorem dL_sum_131 : decode mL_sum.2.1 131 = .ok (.aload_n 0, 1) := by decide +kernel
theorem dL_sum_132 : decode mL_sum.2.1 132 = .ok (.iload_n 3, 1) := by decide +kernel
theorem dL_sum_133 : decode mL_sum.2.1 133 = .ok (.invokevirtual 48, 3) := by decide +kernel
theorem dL_sum_136 : decode mL_sum.2.1 136 = .ok (.imul, 1) := by decide +kernel
theorem dL_sum_137 : decode mL_sum.2.1 137 = .ok (.i2l, 1) := by decide +kernel
theorem dL_sum_138 : decode mL_sum.2.1 138 = .ok (.ladd, 1) := by decide +kernel
theorem dL_sum_139 : decode mL_sum.2.1 139 = .ok (.aload_n 0, 1) := by decide +kernel
theorem dL_sum_140 : decode mL_sum.2.1 140 = .ok (.iload_n 3, 1) := by decide +kernel
theorem dL_sum_141 : decode mL_sum.2.1 141 = .ok (.invokevirtual 54, 3) := by decide +kernel
theorem dL_sum_144 : decode mL_sum.2.1 144 = .ok (.ifCond .eq 7, 3) := by decide +kernel
theorem dL_sum_147 : decode mL_sum.2.1 147 = .ok (.iconst 1, 1) := by decide +kernel
theorem dL_sum_148 : decode mL_sum.2.1 148 = .ok (.goto 4, 3) := by decide +kernel
theorem dL_sum_151 : decode mL_sum.2.1 151 = .ok (.iconst 0, 1) := by decide +kernel
theorem dL_sum_152 : decode mL_sum.2.1 152 = .ok (.i2l, 1) := by decide +kernel
theorem dL_sum_153 : decode mL_sum.2.1 153 = .ok (.ladd, 1) := by decide +kernel
theorem dL_sum_154 : decode mL_sum.2.1 154 = .ok (.lstore_n 1, 1) := by decide +kernel
theorem dL_sum_155 : decode mL_sum.2.1 155 = .ok (.ldc2_w 342, 3) := by decide +kernel
theorem dL_sum_158 : decode mL_sum.2.1 158 = .ok (.lload_n 1, 1) := by decide +kernel
theorem dL_sum_159 : decode mL_sum.2.1 159 = .ok (.lmul, 1) := by decide +kernel
theorem dL_sum_160 : decode mL_sum.2.1 160 = .ok (.sipush 200, 3) := by decide +kernel
theorem dL_sum_163 : decode mL_sum.2.1 163 = .ok (.aload_n 0, 1) := by decide +kernel
theorem dL_sum_164 : decode mL_sum.2.1 164 = .ok (.iload_n 3, 1) := by decide +kernel
theorem dL_sum_165 : decode mL_sum.2.1 165 = .ok (.invokevirtual 51, 3) := by decide +kernel
theorem dL_sum_168 : decode mL_sum.2.1 168 = .ok (.imul, 1) := by decide +kernel
theorem dL_sum_169 : decode mL_sum.2.1 169 = .ok (.i2l, 1) := by decide +kernel
theorem dL_sum_170 : decode mL_sum.2.1 170 = .ok (.ladd, 1) := by decide +kernel
theorem dL_sum_171 : decode mL_sum.2.1 171 = .ok (.aload_n 0, 1) := by decide +kernel
theorem dL_sum_172 : decode mL_sum.2.1 172 = .ok (.iload_n 3, 1) := by decide +kernel
theorem dL_sum_173 : decode mL_sum.2.1 173 = .ok (.invokestatic 251, 3) := by decide +kernel
theorem dL_sum_176 : decode mL_sum.2.1 176 = .ok (.i2l, 1) := by decide +kernel
theorem dL_sum_177 : decode mL_sum.2.1 177 = .ok (.ladd, 1) := by decide +kernel
theorem dL_sum_178 : decode mL_sum.2.1 178 = .ok (.lstore_n 1, 1) := by decide +kernel
theorem dL_sum_179 : decode mL_sum.2.1 179 = .ok (.iconst 0, 1) := by decide +kernel
theorem dL_sum_180 : decode mL_sum.2.1 180 = .ok (.istore 4, 2) := by decide +kernel
theorem dL_sum_182 : decode mL_sum.2.1 182 = .ok (.iload 4, 2) := by decide +kernel
theorem dL_sum_184 : decode mL_sum.2.1 184 = .ok (.aload_n 0, 1) := by decide +kernel
theorem dL_sum_185 : decode mL_sum.2.1 185 = .ok (.iload_n 3, 1) := by decide +kernel
theorem dL_sum_186 : decode mL_sum.2.1 186 = .ok (.invokevirtual 58, 3) := by decide +kernel
theorem dL_sum_189 : decode mL_sum.2.1 189 = .ok (.if_icmp .ge 104, 3) := by decide +kernel
theorem dL_sum_192 : decode mL_sum.2.1 192 = .ok (.aload_n 0, 1) := by decide +kernel
theorem dL_sum_193 : decode mL_sum.2.1 193 = .ok (.iload_n 3, 1) := by decide +kernel
theorem dL_sum_194 : decode mL_sum.2.1 194 = .ok (.iload 4, 2) := by decide +kernel
theorem dL_sum_196 : decode mL_sum.2.1 196 = .ok (.invokevirtual 61, 3) := by decide +kernel
theorem dL_sum_199 : decode mL_sum.2.1 199 = .ok (.istore 5, 2) := by decide +kernel
theorem dL_sum_201 : decode mL_sum.2.1 201 = .ok (.ldc2_w 344, 3) := by decide +kernel
theorem dL_sum_204 : decode mL_sum.2.1 204 = .ok (.lload_n 1, 1) := by decide +kernel
theorem dL_sum_205 : decode mL_sum.2.1 205 = .ok (.lmul, 1) := by decide +kernel
theorem dL_sum_206 : decode mL_sum.2.1 206 = .ok (.sipush 1000, 3) := by decide +kernel
theorem dL_sum_209 : decode mL_sum.2.1 209 = .ok (.iload 5, 2) := by decide +kernel
theorem dL_sum_211 : decode mL_sum.2.1 211 = .ok (.imul, 1) := by decide +kernel
theorem dL_sum_212 : decode mL_sum.2.1 212 = .ok (.i2l, 1) := by decide +kernel
theorem dL_sum_213 : decode mL_sum.2.1 213 = .ok (.ladd, 1) := by decide +kernel
theorem dL_sum_214 : decode mL_sum.2.1 214 = .ok (.aload_n 0, 1) := by decide +kernel
theorem dL_sum_215 : decode mL_sum.2.1 215 = .ok (.iload_n 3, 1) := by decide +kernel
theorem dL_sum_216 : decode mL_sum.2.1 216 = .ok (.iload 5, 2) := by decide +kernel
theorem dL_sum_218 : decode mL_sum.2.1 218 = .ok (.invokevirtual 69, 3) := by decide +kernel
theorem dL_sum_221 : decode mL_sum.2.1 221 = .ok (.i2l, 1) := by decide +kernel
theorem dL_sum_222 : decode mL_sum.2.1 222 = .ok (.ladd, 1) := by decide +kernel
theorem dL_sum_223 : decode mL_sum.2.1 223 = .ok (.lstore_n 1, 1) := by decide +kernel
theorem dL_sum_224 : decode mL_sum.2.1 224 = .ok (.ldc2_w 346, 3) := by decide +kernel
theorem dL_sum_227 : decode mL_sum.2.1 227 = .ok (.lload_n 1, 1) := by decide +kernel
theorem dL_sum_228 : decode mL_sum.2.1 228 = .ok (.lmul, 1) := by decide +kernel
theorem dL_sum_229 : decode mL_sum.2.1 229 = .ok (.bipush 100, 2) := by decide +kernel
theorem dL_sum_231 : decode mL_sum.2.1 231 = .ok (.aload_n 0, 1) := by decide +kernel
theorem dL_sum_232 : decode mL_sum.2.1 232 = .ok (.iload_n 3, 1) := by decide +kernel
theorem dL_sum_233 : decode mL_sum.2.1 233 = .ok (.iload 5, 2) := by decide +kernel
theorem dL_sum_235 : decode mL_sum.2.1 235 = .ok (.invokevirtual 73, 3) := by decide +kernel
theorem dL_sum_238 : decode mL_sum.2.1 238 = .ok (.imul, 1) := by decide +kernel
theorem dL_sum_239 : decode mL_sum.2.1 239 = .ok (.i2l, 1) := by decide +kernel
theorem dL_sum_240 : decode mL_sum.2.1 240 = .ok (.ladd, 1) := by decide +kernel
theorem dL_sum_241 : decode mL_sum.2.1 241 = .ok (.iconst 4, 1) := by decide +kernel
theorem dL_sum_242 : decode mL_sum.2.1 242 = .ok (.aload_n 0, 1) := by decide +kernel
theorem dL_sum_243 : decode mL_sum.2.1 243 = .ok (.iload_n 3, 1) := by decide +kernel
theorem dL_sum_244 : decode mL_sum.2.1 244 = .ok (.iload 5, 2) := by decide +kernel
theorem dL_sum_246 : decode mL_sum.2.1 246 = .ok (.invokevirtual 76, 3) := by decide +kernel
theorem dL_sum_249 : decode mL_sum.2.1 249 = .ok (.imul, 1) := by decide +kernel
theorem dL_sum_250 : decode mL_sum.2.1 250 = .ok (.i2l, 1) := by decide +kernel
theorem dL_sum_251 : decode mL_sum.2.1 251 = .ok (.ladd, 1) := by decide +kernel
theorem dL_sum_252 : decode mL_sum.2.1 252 = .ok (.aload_n 0, 1) := by decide +kernel
theorem dL_sum_253 : decode mL_sum.2.1 253 = .ok (.iload_n 3, 1) := by decide +kernel
theorem dL_sum_254 : decode mL_sum.2.1 254 = .ok (.iload 5, 2) := by decide +kernel
theorem dL_sum_256 : decode mL_sum.2.1 256 = .ok (.invokevirtual 82, 3) := by decide +kernel
theorem dL_sum_259 : decode mL_sum.2.1 259 = .ok (.ifCond .eq 7, 3) := by decide +kernel
theorem dL_sum_262 : decode mL_sum.2.1 262 = .ok (.iconst 2, 1) := by decide +kernel
theorem dL_sum_263 : decode mL_sum.2.1 263 = .ok (.goto 4, 3) := by decide +kernel
theorem dL_sum_266 : decode mL_sum.2.1 266 = .ok (.iconst 0, 1) := by decide +kernel
theorem dL_sum_267 : decode mL_sum.2.1 267 = .ok (.i2l, 1) := by decide +kernel
theorem dL_sum_268 : decode mL_sum.2.1 268 = .ok (.ladd, 1) := by decide +kernel
theorem dL_sum_269 : decode mL_sum.2.1 269 = .ok (.aload_n 0, 1) := by decide +kernel
theorem dL_sum_270 : decode mL_sum.2.1 270 = .ok (.iload_n 3, 1) := by decide +kernel
theorem dL_sum_271 : decode mL_sum.2.1 271 = .ok (.iload 5, 2) := by decide +kernel
theorem dL_sum_273 : decode mL_sum.2.1 273 = .ok (.invokevirtual 85, 3) := by decide +kernel
theorem dL_sum_276 : decode mL_sum.2.1 276 = .ok (.ifCond .eq 7, 3) := by decide +kernel
theorem dL_sum_279 : decode mL_sum.2.1 279 = .ok (.iconst 1, 1) := by decide +kernel
theorem dL_sum_280 : decode mL_sum.2.1 280 = .ok (.goto 4, 3) := by decide +kernel
theorem dL_sum_283 : decode mL_sum.2.1 283 = .ok (.iconst 0, 1) := by decide +kernel
theorem dL_sum_284 : decode mL_sum.2.1 284 = .ok (.i2l, 1) := by decide +kernel
theorem dL_sum_285 : decode mL_sum.2.1 285 = .ok (.ladd, 1) := by decide +kernel
theorem dL_sum_286 : decode mL_sum.2.1 286 = .ok (.lstore_n 1, 1) := by decide +kernel
theorem dL_sum_287 : decode mL_sum.2.1 287 = .ok (.iinc 4 1, 3) := by decide +kernel
theorem dL_sum_290 : decode mL_sum.2.1 290 = .ok (.goto (-108), 3) := by decide +kernel
theorem dL_sum_293 : decode mL_sum.2.1 293 = .ok (.iinc 3 1, 3) := by decide +kernel
theorem dL_sum_296 : decode mL_sum.2.1 296 = .ok (.goto (-191), 3) := by decide +kernel
theorem dL_sum_299 : decode mL_sum.2.1 299 = .ok (.iconst 0, 1) := by decide +kernel
theorem dL_sum_300 : decode mL_sum.2.1 300 = .ok (.istore_n 3, 1) := by decide +kernel
theorem dL_sum_301 : decode mL_sum.2.1 301 = .ok (.iload_n 3, 1) := by decide +kernel
theorem dL_sum_302 : decode mL_sum.2.1 302 = .ok (.aload_n 0, 1) := by decide +kernel
theorem dL_sum_303 : decode mL_sum.2.1 303 = .ok (.invokevirtual 280, 3) := by decide +kernel
theorem dL_sum_306 : decode mL_sum.2.1 306 = .ok (.if_icmp .ge 33, 3) := by decide +kernel
theorem dL_sum_309 : decode mL_sum.2.1 309 = .ok (.ldc2_w 348, 3) := by decide +kernel
theorem dL_sum_312 : decode mL_sum.2.1 312 = .ok (.lload_n 1, 1) := by decide +kernel
theorem dL_sum_313 : decode mL_sum.2.1 313 = .ok (.lmul, 1) := by decide +kernel
theorem dL_sum_314 : decode mL_sum.2.1 314 = .ok (.sipush 200, 3) := by decide +kernel
theorem dL_sum_317 : decode mL_sum.2.1 317 = .ok (.aload_n 0, 1) := by decide +kernel
theorem dL_sum_318 : decode mL_sum.2.1 318 = .ok (.iload_n 3, 1) := by decide +kernel
theorem dL_sum_319 : decode mL_sum.2.1 319 = .ok (.invokevirtual 114, 3) := by decide +kernel
theorem dL_sum_322 : decode mL_sum.2.1 322 = .ok (.imul, 1) := by decide +kernel
theorem dL_sum_323 : decode mL_sum.2.1 323 = .ok (.i2l, 1) := by decide +kernel
theorem dL_sum_324 : decode mL_sum.2.1 324 = .ok (.ladd, 1) := by decide +kernel
theorem dL_sum_325 : decode mL_sum.2.1 325 = .ok (.aload_n 0, 1) := by decide +kernel
theorem dL_sum_326 : decode mL_sum.2.1 326 = .ok (.iload_n 3, 1) := by decide +kernel
theorem dL_sum_327 : decode mL_sum.2.1 327 = .ok (.invokevirtual 117, 3) := by decide +kernel
theorem dL_sum_330 : decode mL_sum.2.1 330 = .ok (.i2l, 1) := by decide +kernel
theorem dL_sum_331 : decode mL_sum.2.1 331 = .ok (.ladd, 1) := by decide +kernel
theorem dL_sum_332 : decode mL_sum.2.1 332 = .ok (.lstore_n 1, 1) := by decide +kernel
theorem dL_sum_333 : decode mL_sum.2.1 333 = .ok (.iinc 3 1, 3) := by decide +kernel
theorem dL_sum_336 : decode mL_sum.2.1 336 = .ok (.goto (-35), 3) := by decide +kernel
theorem dL_sum_339 : decode mL_sum.2.1 339 = .ok (.lload_n 1, 1) := by decide +kernel
theorem dL_sum_340 : decode mL_sum.2.1 340 = .ok (.lreturn, 1) := by decide +kernel
theorem dL_undone_0 : decode mL_undone.2.1 0 = .ok (.bipush 9, 2) := by decide +kernel
theorem dL_undone_2 : decode mL_undone.2.1 2 = .ok (.newarray .long, 2) := by decide +kernel
theorem dL_undone_4 : decode mL_undone.2.1 4 = .ok (.astore_n 2, 1) := by decide +kernel
theorem dL_undone_5 : decode mL_undone.2.1 5 = .ok (.iconst 0, 1) := by decide +kernel
theorem dL_undone_6 : decode mL_undone.2.1 6 = .ok (.istore_n 3, 1) := by decide +kernel
theorem dL_undone_7 : decode mL_undone.2.1 7 = .ok (.iconst 0, 1) := by decide +kernel
theorem dL_undone_8 : decode mL_undone.2.1 8 = .ok (.istore 4, 2) := by decide +kernel
theorem dL_undone_10 : decode mL_undone.2.1 10 = .ok (.iload 4, 2) := by decide +kernel
theorem dL_undone_12 : decode mL_undone.2.1 12 = .ok (.bipush 7, 2) := by decide +kernel
theorem dL_undone_14 : decode mL_undone.2.1 14 = .ok (.if_icmp .ge 394, 3) := by decide +kernel
theorem dL_undone_17 : decode mL_undone.2.1 17 = .ok (.aload_n 0, 1) := by decide +kernel
theorem dL_undone_18 : decode mL_undone.2.1 18 = .ok (.bipush 25, 2) := by decide +kernel
theorem dL_undone_20 : decode mL_undone.2.1 20 = .ok (.iload 4, 2) := by decide +kernel
theorem dL_undone_22 : decode mL_undone.2.1 22 = .ok (.iadd, 1) := by decide +kernel
theorem dL_undone_23 : decode mL_undone.2.1 23 = .ok (.invokestatic 166, 3) := by decide +kernel
theorem dL_undone_26 : decode mL_undone.2.1 26 = .ok (.iconst 1, 1) := by decide +kernel
theorem dL_undone_27 : decode mL_undone.2.1 27 = .ok (.iushr, 1) := by decide +kernel
theorem dL_undone_28 : decode mL_undone.2.1 28 = .ok (.istore 5, 2) := by decide +kernel
theorem dL_undone_30 : decode mL_undone.2.1 30 = .ok (.iload 5, 2) := by decide +kernel
theorem dL_undone_32 : decode mL_undone.2.1 32 = .ok (.iconst 4, 1) := by decide +kernel
theorem dL_undone_33 : decode mL_undone.2.1 33 = .ok (.iushr, 1) := by decide +kernel
theorem dL_undone_34 : decode mL_undone.2.1 34 = .ok (.istore 6, 2) := by decide +kernel
theorem dL_undone_36 : decode mL_undone.2.1 36 = .ok (.bipush 97, 2) := by decide +kernel
theorem dL_undone_38 : decode mL_undone.2.1 38 = .ok (.iload 6, 2) := by decide +kernel
theorem dL_undone_40 : decode mL_undone.2.1 40 = .ok (.bipush 18, 2) := by decide +kernel
theorem dL_undone_42 : decode mL_undone.2.1 42 = .ok (.irem, 1) := by decide +kernel
theorem dL_undone_43 : decode mL_undone.2.1 43 = .ok (.iadd, 1) := by decide +kernel
theorem dL_undone_44 : decode mL_undone.2.1 44 = .ok (.i2c, 1) := by decide +kernel
theorem dL_undone_45 : decode mL_undone.2.1 45 = .ok (.istore 7, 2) := by decide +kernel
theorem dL_undone_47 : decode mL_undone.2.1 47 = .ok (.aload_n 2, 1) := by decide +kernel
theorem dL_undone_48 : decode mL_undone.2.1 48 = .ok (.iload_n 3, 1) := by decide +kernel
theorem dL_undone_49 : decode mL_undone.2.1 49 = .ok (.aload_n 1, 1) := by decide +kernel
theorem dL_undone_50 : decode mL_undone.2.1 50 = .ok (.invokestatic 350, 3) := by decide +kernel
theorem dL_undone_53 : decode mL_undone.2.1 53 = .ok (.lastore, 1) := by decide +kernel
theorem dL_undone_54 : decode mL_undone.2.1 54 = .ok (.iload 5, 2) := by decide +kernel
theorem dL_undone_56 : decode mL_undone.2.1 56 = .ok (.bipush 10, 2) := by decide +kernel
theorem dL_undone_58 : decode mL_undone.2.1 58 = .ok (.irem, 1) := by decide +kernel
theorem dL_undone_59 : decode mL_undone.2.1 59 = .ok (.tableswitch 236 0 8 #[49, 67, 78, 96, 130, 158, 158, 175, 200], 49) := by decide +kernel
theorem dL_undone_108 : decode mL_undone.2.1 108 = .ok (.aload_n 1, 1) := by decide +kernel
theorem dL_undone_109 : decode mL_undone.2.1 109 = .ok (.iload 7, 2) := by decide +kernel
theorem dL_undone_111 : decode mL_undone.2.1 111 = .ok (.iload 6, 2) := by decide +kernel
theorem dL_undone_113 : decode mL_undone.2.1 113 = .ok (.iconst 5, 1) := by decide +kernel
theorem dL_undone_114 : decode mL_undone.2.1 114 = .ok (.iushr, 1) := by decide +kernel
theorem dL_undone_115 : decode mL_undone.2.1 115 = .ok (.bipush 102, 2) := by decide +kernel
theorem dL_undone_117 : decode mL_undone.2.1 117 = .ok (.irem, 1) := by decide +kernel
theorem dL_undone_118 : decode mL_undone.2.1 118 = .ok (.invokestatic 170, 3) := by decide +kernel
theorem dL_undone_121 : decode mL_undone.2.1 121 = .ok (.istore 8, 2) := by decide +kernel
theorem dL_undone_123 : decode mL_undone.2.1 123 = .ok (.goto 248, 3) := by decide +kernel
theorem dL_undone_126 : decode mL_undone.2.1 126 = .ok (.aload_n 1, 1) := by decide +kernel
theorem dL_undone_127 : decode mL_undone.2.1 127 = .ok (.iload 7, 2) := by decide +kernel
theorem dL_undone_129 : decode mL_undone.2.1 129 = .ok (.invokestatic 354, 3) := by decide +kernel
theorem dL_undone_132 : decode mL_undone.2.1 132 = .ok (.istore 8, 2) := by decide +kernel
theorem dL_undone_134 : decode mL_undone.2.1 134 = .ok (.goto 237, 3) := by decide +kernel
theorem dL_undone_137 : decode mL_undone.2.1 137 = .ok (.aload_n 1, 1) := by decide +kernel
theorem dL_undone_138 : decode mL_undone.2.1 138 = .ok (.iload 7, 2) := by decide +kernel
theorem dL_undone_140 : decode mL_undone.2.1 140 = .ok (.iload 6, 2) := by decide +kernel
theorem dL_undone_142 : decode mL_undone.2.1 142 = .ok (.iconst 5, 1) := by decide +kernel
theorem dL_undone_143 : decode mL_undone.2.1 143 = .ok (.iushr, 1) := by decide +kernel
theorem dL_undone_144 : decode mL_undone.2.1 144 = .ok (.bipush 102, 2) := by decide +kernel
theorem dL_undone_146 : decode mL_undone.2.1 146 = .ok (.irem, 1) := by decide +kernel
theorem dL_undone_147 : decode mL_undone.2.1 147 = .ok (.invokestatic 181, 3) := by decide +kernel
theorem dL_undone_150 : decode mL_undone.2.1 150 = .ok (.istore 8, 2) := by decide +kernel
theorem dL_undone_152 : decode mL_undone.2.1 152 = .ok (.goto 219, 3) := by decide +kernel
theorem dL_undone_155 : decode mL_undone.2.1 155 = .ok (.aload_n 1, 1) := by decide +kernel
theorem dL_undone_156 : decode mL_undone.2.1 156 = .ok (.iload 6, 2) := by decide +kernel
theorem dL_undone_158 : decode mL_undone.2.1 158 = .ok (.bipush 8, 2) := by decide +kernel
theorem dL_undone_160 : decode mL_undone.2.1 160 = .ok (.irem, 1) := by decide +kernel
theorem dL_undone_161 : decode mL_undone.2.1 161 = .ok (.iload 6, 2) := by decide +kernel
theorem dL_undone_163 : decode mL_undone.2.1 163 = .ok (.iconst 3, 1) := by decide +kernel
theorem dL_undone_164 : decode mL_undone.2.1 164 = .ok (.iushr, 1) := by decide +kernel
theorem dL_undone_165 : decode mL_undone.2.1 165 = .ok (.bipush 32, 2) := by decide +kernel
theorem dL_undone_167 : decode mL_undone.2.1 167 = .ok (.irem, 1) := by decide +kernel
theorem dL_undone_168 : decode mL_undone.2.1 168 = .ok (.ldc_w 356, 3) := by decide +kernel
theorem dL_undone_171 : decode mL_undone.2.1 171 = .ok (.iload 6, 2) := by decide +kernel
theorem dL_undone_173 : decode mL_undone.2.1 173 = .ok (.bipush 8, 2) := by decide +kernel
theorem dL_undone_175 : decode mL_undone.2.1 175 = .ok (.iushr, 1) := by decide +kernel
theorem dL_undone_176 : decode mL_undone.2.1 176 = .ok (.iconst 4, 1) := by decide +kernel
theorem dL_undone_177 : decode mL_undone.2.1 177 = .ok (.irem, 1) := by decide +kernel
theorem dL_undone_178 : decode mL_undone.2.1 178 = .ok (.invokevirtual 153, 3) := by decide +kernel
theorem dL_undone_181 : decode mL_undone.2.1 181 = .ok (.invokestatic 175, 3) := by decide +kernel
theorem dL_undone_184 : decode mL_undone.2.1 184 = .ok (.istore 8, 2) := by decide +kernel
theorem dL_undone_186 : decode mL_undone.2.1 186 = .ok (.goto 185, 3) := by decide +kernel
theorem dL_undone_189 : decode mL_undone.2.1 189 = .ok (.aload_n 1, 1) := by decide +kernel
theorem dL_undone_190 : decode mL_undone.2.1 190 = .ok (.iload 6, 2) := by decide +kernel
theorem dL_undone_192 : decode mL_undone.2.1 192 = .ok (.iconst 5, 1) := by decide +kernel
theorem dL_undone_193 : decode mL_undone.2.1 193 = .ok (.irem, 1) := by decide +kernel
theorem dL_undone_194 : decode mL_undone.2.1 194 = .ok (.iload 5, 2) := by decide +kernel
theorem dL_undone_196 : decode mL_undone.2.1 196 = .ok (.bipush 20, 2) := by decide +kernel
theorem dL_undone_198 : decode mL_undone.2.1 198 = .ok (.irem, 1) := by decide +kernel
theorem dL_undone_199 : decode mL_undone.2.1 199 = .ok (.bipush 10, 2) := by decide +kernel
theorem dL_undone_201 : decode mL_undone.2.1 201 = .ok (.if_icmp .ge 7, 3) := by decide +kernel
theorem dL_undone_204 : decode mL_undone.2.1 204 = .ok (.iconst 1, 1) := by decide +kernel
theorem dL_undone_205 : decode mL_undone.2.1 205 = .ok (.goto 4, 3) := by decide +kernel
theorem dL_undone_208 : decode mL_undone.2.1 208 = .ok (.iconst 0, 1) := by decide +kernel
theorem dL_undone_209 : decode mL_undone.2.1 209 = .ok (.invokestatic 189, 3) := by decide +kernel
theorem dL_undone_212 : decode mL_undone.2.1 212 = .ok (.istore 8, 2) := by decide +kernel
theorem dL_undone_214 : decode mL_undone.2.1 214 = .ok (.goto 157, 3) := by decide +kernel
theorem dL_undone_217 : decode mL_undone.2.1 217 = .ok (.aload_n 1, 1) := by decide +kernel
theorem dL_undone_218 : decode mL_undone.2.1 218 = .ok (.iload 6, 2) := by decide +kernel
theorem dL_undone_220 : decode mL_undone.2.1 220 = .ok (.iconst 5, 1) := by decide +kernel
theorem dL_undone_221 : decode mL_undone.2.1 221 = .ok (.iushr, 1) := by decide +kernel
theorem dL_undone_222 : decode mL_undone.2.1 222 = .ok (.iconst 5, 1) := by decide +kernel
theorem dL_undone_223 : decode mL_undone.2.1 223 = .ok (.irem, 1) := by decide +kernel
theorem dL_undone_224 : decode mL_undone.2.1 224 = .ok (.iload 7, 2) := by decide +kernel
theorem dL_undone_226 : decode mL_undone.2.1 226 = .ok (.invokestatic 178, 3) := by decide +kernel
theorem dL_undone_229 : decode mL_undone.2.1 229 = .ok (.istore 8, 2) := by decide +kernel
theorem dL_undone_231 : decode mL_undone.2.1 231 = .ok (.goto 140, 3) := by decide +kernel
theorem dL_undone_234 : decode mL_undone.2.1 234 = .ok (.aload_n 1, 1) := by decide +kernel
theorem dL_undone_235 : decode mL_undone.2.1 235 = .ok (.iload 6, 2) := by decide +kernel
theorem dL_undone_237 : decode mL_undone.2.1 237 = .ok (.iconst 5, 1) := by decide +kernel
theorem dL_undone_238 : decode mL_undone.2.1 238 = .ok (.iushr, 1) := by decide +kernel
theorem dL_undone_239 : decode mL_undone.2.1 239 = .ok (.iconst 5, 1) := by decide +kernel
theorem dL_undone_240 : decode mL_undone.2.1 240 = .ok (.irem, 1) := by decide +kernel
theorem dL_undone_241 : decode mL_undone.2.1 241 = .ok (.iload 7, 2) := by decide +kernel
theorem dL_undone_243 : decode mL_undone.2.1 243 = .ok (.iload 6, 2) := by decide +kernel
theorem dL_undone_245 : decode mL_undone.2.1 245 = .ok (.bipush 8, 2) := by decide +kernel
theorem dL_undone_247 : decode mL_undone.2.1 247 = .ok (.iushr, 1) := by decide +kernel
theorem dL_undone_248 : decode mL_undone.2.1 248 = .ok (.bipush 53, 2) := by decide +kernel
theorem dL_undone_250 : decode mL_undone.2.1 250 = .ok (.irem, 1) := by decide +kernel
theorem dL_undone_251 : decode mL_undone.2.1 251 = .ok (.invokestatic 183, 3) := by decide +kernel
theorem dL_undone_254 : decode mL_undone.2.1 254 = .ok (.istore 8, 2) := by decide +kernel
theorem dL_undone_256 : decode mL_undone.2.1 256 = .ok (.goto 115, 3) := by decide +kernel
theorem dL_undone_259 : decode mL_undone.2.1 259 = .ok (.iload 6, 2) := by decide +kernel
theorem dL_undone_261 : decode mL_undone.2.1 261 = .ok (.iconst 3, 1) := by decide +kernel
theorem dL_undone_262 : decode mL_undone.2.1 262 = .ok (.irem, 1) := by decide +kernel
theorem dL_undone_263 : decode mL_undone.2.1 263 = .ok (.ifCond .ne 16, 3) := by decide +kernel
theorem dL_undone_266 : decode mL_undone.2.1 266 = .ok (.aload_n 1, 1) := by decide +kernel
theorem dL_undone_267 : decode mL_undone.2.1 267 = .ok (.iload 6, 2) := by decide +kernel
theorem dL_undone_269 : decode mL_undone.2.1 269 = .ok (.iconst 2, 1) := by decide +kernel
theorem dL_undone_270 : decode mL_undone.2.1 270 = .ok (.iushr, 1) := by decide +kernel
theorem dL_undone_271 : decode mL_undone.2.1 271 = .ok (.iconst 4, 1) := by decide +kernel
theorem dL_undone_272 : decode mL_undone.2.1 272 = .ok (.irem, 1) := by decide +kernel
theorem dL_undone_273 : decode mL_undone.2.1 273 = .ok (.invokestatic 358, 3) := by decide +kernel
theorem dL_undone_276 : decode mL_undone.2.1 276 = .ok (.goto 14, 3) := by decide +kernel
theorem dL_undone_279 : decode mL_undone.2.1 279 = .ok (.aload_n 1, 1) := by decide +kernel
theorem dL_undone_280 : decode mL_undone.2.1 280 = .ok (.iload 6, 2) := by decide +kernel
theorem dL_undone_282 : decode mL_undone.2.1 282 = .ok (.iconst 2, 1) := by decide +kernel
theorem dL_undone_283 : decode mL_undone.2.1 283 = .ok (.iushr, 1) := by decide +kernel
theorem dL_undone_284 : decode mL_undone.2.1 284 = .ok (.bipush 62, 2) := by decide +kernel
theorem dL_undone_286 : decode mL_undone.2.1 286 = .ok (.irem, 1) := by decide +kernel
theorem dL_undone_287 : decode mL_undone.2.1 287 = .ok (.invokestatic 186, 3) := by decide +kernel
theorem dL_undone_290 : decode mL_undone.2.1 290 = .ok (.istore 8, 2) := by decide +kernel
theorem dL_undone_292 : decode mL_undone.2.1 292 = .ok (.goto 79, 3) := by decide +kernel
theorem dL_undone_295 : decode mL_undone.2.1 295 = .ok (.aload_n 1, 1) := by decide +kernel
theorem dL_undone_296 : decode mL_undone.2.1 296 = .ok (.new 305, 3) := by decide +kernel
theorem dL_undone_299 : decode mL_undone.2.1 299 = .ok (.dup, 1) := by decide +kernel
theorem dL_undone_300 : decode mL_undone.2.1 300 = .ok (.invokespecial 307, 3) := by decide +kernel
theorem dL_undone_303 : decode mL_undone.2.1 303 = .ok (.ldc_w 361, 3) := by decide +kernel
theorem dL_undone_306 : decode mL_undone.2.1 306 = .ok (.invokevirtual 308, 3) := by decide +kernel
theorem dL_undone_309 : decode mL_undone.2.1 309 = .ok (.iload 6, 2) := by decide +kernel
theorem dL_undone_311 : decode mL_undone.2.1 311 = .ok (.bipush 100, 2) := by decide +kernel
theorem dL_undone_313 : decode mL_undone.2.1 313 = .ok (.irem, 1) := by decide +kernel
theorem dL_undone_314 : decode mL_undone.2.1 314 = .ok (.invokevirtual 317, 3) := by decide +kernel
theorem dL_undone_317 : decode mL_undone.2.1 317 = .ok (.ldc_w 363, 3) := by decide +kernel
theorem dL_undone_320 : decode mL_undone.2.1 320 = .ok (.invokevirtual 308, 3) := by decide +kernel
theorem dL_undone_323 : decode mL_undone.2.1 323 = .ok (.iload 7, 2) := by decide +kernel
theorem dL_undone_325 : decode mL_undone.2.1 325 = .ok (.invokevirtual 314, 3) := by decide +kernel
theorem dL_undone_328 : decode mL_undone.2.1 328 = .ok (.ldc_w 312, 3) := by decide +kernel
theorem dL_undone_331 : decode mL_undone.2.1 331 = .ok (.invokevirtual 308, 3) := by decide +kernel
theorem dL_undone_334 : decode mL_undone.2.1 334 = .ok (.iconst 1, 1) := by decide +kernel
theorem dL_undone_335 : decode mL_undone.2.1 335 = .ok (.iload 6, 2) := by decide +kernel
theorem dL_undone_337 : decode mL_undone.2.1 337 = .ok (.bipush 7, 2) := by decide +kernel
theorem dL_undone_339 : decode mL_undone.2.1 339 = .ok (.iushr, 1) := by decide +kernel
theorem dL_undone_340 : decode mL_undone.2.1 340 = .ok (.bipush 9, 2) := by decide +kernel
theorem dL_undone_342 : decode mL_undone.2.1 342 = .ok (.irem, 1) := by decide +kernel
theorem dL_undone_343 : decode mL_undone.2.1 343 = .ok (.iadd, 1) := by decide +kernel
theorem dL_undone_344 : decode mL_undone.2.1 344 = .ok (.invokevirtual 317, 3) := by decide +kernel
theorem dL_undone_347 : decode mL_undone.2.1 347 = .ok (.ldc_w 365, 3) := by decide +kernel
theorem dL_undone_350 : decode mL_undone.2.1 350 = .ok (.invokevirtual 308, 3) := by decide +kernel
theorem dL_undone_353 : decode mL_undone.2.1 353 = .ok (.iload 6, 2) := by decide +kernel
theorem dL_undone_355 : decode mL_undone.2.1 355 = .ok (.iconst 4, 1) := by decide +kernel
theorem dL_undone_356 : decode mL_undone.2.1 356 = .ok (.iushr, 1) := by decide +kernel
theorem dL_undone_357 : decode mL_undone.2.1 357 = .ok (.bipush 12, 2) := by decide +kernel
theorem dL_undone_359 : decode mL_undone.2.1 359 = .ok (.irem, 1) := by decide +kernel
theorem dL_undone_360 : decode mL_undone.2.1 360 = .ok (.invokevirtual 317, 3) := by decide +kernel
theorem dL_undone_363 : decode mL_undone.2.1 363 = .ok (.invokevirtual 324, 3) := by decide +kernel
theorem dL_undone_366 : decode mL_undone.2.1 366 = .ok (.invokestatic 367, 3) := by decide +kernel
theorem dL_undone_369 : decode mL_undone.2.1 369 = .ok (.istore 8, 2) := by decide +kernel
theorem dL_undone_371 : decode mL_undone.2.1 371 = .ok (.iload 8, 2) := by decide +kernel
theorem dL_undone_373 : decode mL_undone.2.1 373 = .ok (.ifCond .ge 16, 3) := by decide +kernel
theorem dL_undone_376 : decode mL_undone.2.1 376 = .ok (.aload_n 1, 1) := by decide +kernel
theorem dL_undone_377 : decode mL_undone.2.1 377 = .ok (.invokestatic 350, 3) := by decide +kernel
theorem dL_undone_380 : decode mL_undone.2.1 380 = .ok (.aload_n 2, 1) := by decide +kernel
theorem dL_undone_381 : decode mL_undone.2.1 381 = .ok (.iload_n 3, 1) := by decide +kernel
theorem dL_undone_382 : decode mL_undone.2.1 382 = .ok (.laload, 1) := by decide +kernel
theorem dL_undone_383 : decode mL_undone.2.1 383 = .ok (.lcmp, 1) := by decide +kernel
theorem dL_undone_384 : decode mL_undone.2.1 384 = .ok (.ifCond .eq 5, 3) := by decide +kernel
theorem dL_undone_387 : decode mL_undone.2.1 387 = .ok (.iconst 0, 1) := by decide +kernel
theorem dL_undone_388 : decode mL_undone.2.1 388 = .ok (.ireturn, 1) := by decide +kernel
theorem dL_undone_389 : decode mL_undone.2.1 389 = .ok (.iload_n 3, 1) := by decide +kernel
theorem dL_undone_390 : decode mL_undone.2.1 390 = .ok (.iload 8, 2) := by decide +kernel
theorem dL_undone_392 : decode mL_undone.2.1 392 = .ok (.ifCond .ge 7, 3) := by decide +kernel
theorem dL_undone_395 : decode mL_undone.2.1 395 = .ok (.iconst 0, 1) := by decide +kernel
theorem dL_undone_396 : decode mL_undone.2.1 396 = .ok (.goto 4, 3) := by decide +kernel
theorem dL_undone_399 : decode mL_undone.2.1 399 = .ok (.iconst 1, 1) := by decide +kernel
theorem dL_undone_400 : decode mL_undone.2.1 400 = .ok (.iadd, 1) := by decide +kernel
theorem dL_undone_401 : decode mL_undone.2.1 401 = .ok (.istore_n 3, 1) := by decide +kernel
theorem dL_undone_402 : decode mL_undone.2.1 402 = .ok (.iinc 4 1, 3) := by decide +kernel
theorem dL_undone_405 : decode mL_undone.2.1 405 = .ok (.goto (-395), 3) := by decide +kernel
theorem dL_undone_408 : decode mL_undone.2.1 408 = .ok (.iload_n 3, 1) := by decide +kernel
theorem dL_undone_409 : decode mL_undone.2.1 409 = .ok (.iconst 1, 1) := by decide +kernel
theorem dL_undone_410 : decode mL_undone.2.1 410 = .ok (.isub, 1) := by decide +kernel
theorem dL_undone_411 : decode mL_undone.2.1 411 = .ok (.istore 4, 2) := by decide +kernel
theorem dL_undone_413 : decode mL_undone.2.1 413 = .ok (.iload 4, 2) := by decide +kernel
theorem dL_undone_415 : decode mL_undone.2.1 415 = .ok (.ifCond .lt 30, 3) := by decide +kernel
theorem dL_undone_418 : decode mL_undone.2.1 418 = .ok (.aload_n 1, 1) := by decide +kernel
theorem dL_undone_419 : decode mL_undone.2.1 419 = .ok (.invokestatic 370, 3) := by decide +kernel
theorem dL_undone_422 : decode mL_undone.2.1 422 = .ok (.ifCond .lt 15, 3) := by decide +kernel
theorem dL_undone_425 : decode mL_undone.2.1 425 = .ok (.aload_n 1, 1) := by decide +kernel
theorem dL_undone_426 : decode mL_undone.2.1 426 = .ok (.invokestatic 350, 3) := by decide +kernel
theorem dL_undone_429 : decode mL_undone.2.1 429 = .ok (.aload_n 2, 1) := by decide +kernel
theorem dL_undone_430 : decode mL_undone.2.1 430 = .ok (.iload 4, 2) := by decide +kernel
theorem dL_undone_432 : decode mL_undone.2.1 432 = .ok (.laload, 1) := by decide +kernel
theorem dL_undone_433 : decode mL_undone.2.1 433 = .ok (.lcmp, 1) := by decide +kernel
theorem dL_undone_434 : decode mL_undone.2.1 434 = .ok (.ifCond .eq 5, 3) := by decide +kernel
theorem dL_undone_437 : decode mL_undone.2.1 437 = .ok (.iconst 0, 1) := by decide +kernel
theorem dL_undone_438 : decode mL_undone.2.1 438 = .ok (.ireturn, 1) := by decide +kernel
theorem dL_undone_439 : decode mL_undone.2.1 439 = .ok (.iinc 4 (-1), 3) := by decide +kernel
theorem dL_undone_442 : decode mL_undone.2.1 442 = .ok (.goto (-29), 3) := by decide +kernel
theorem dL_undone_445 : decode mL_undone.2.1 445 = .ok (.iconst 1, 1) := by decide +kernel
theorem dL_undone_446 : decode mL_undone.2.1 446 = .ok (.ireturn, 1) := by decide +kernel
