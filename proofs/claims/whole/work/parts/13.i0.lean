theorem i0_0 : zfetch 0 0 = some (0, .iconst 0, 1) := by decide +kernel
theorem i0_1 : zfetch 0 1 = some (0, .istore_n 3, 1) := by decide +kernel
theorem i0_2 : zfetch 0 2 = some (0, .iload_n 3, 1) := by decide +kernel
theorem i0_3 : zfetch 0 3 = some (0, .iload_n 2, 1) := by decide +kernel
theorem i0_4 : zfetch 0 4 = some (0, .if_icmp .ge 30, 3) := by decide +kernel
theorem i0_7 : zfetch 0 7 = some (0, .iload_n 3, 1) := by decide +kernel
theorem i0_8 : zfetch 0 8 = some (0, .bipush 60, 2) := by decide +kernel
theorem i0_10 : zfetch 0 10 = some (0, .if_icmp .ge 24, 3) := by decide +kernel
theorem i0_13 : zfetch 0 13 = some (0, .iload_n 3, 1) := by decide +kernel
theorem i0_14 : zfetch 0 14 = some (0, .aload_n 1, 1) := by decide +kernel
theorem i0_15 : zfetch 0 15 = some (0, .arraylength, 1) := by decide +kernel
theorem i0_16 : zfetch 0 16 = some (0, .if_icmp .ge 18, 3) := by decide +kernel
theorem i0_19 : zfetch 0 19 = some (0, .aload_n 0, 1) := by decide +kernel
theorem i0_20 : zfetch 0 20 = some (0, .getfield 9, 3) := by decide +kernel
theorem i0_23 : zfetch 0 23 = some (0, .iload_n 3, 1) := by decide +kernel
theorem i0_24 : zfetch 0 24 = some (0, .aload_n 1, 1) := by decide +kernel
theorem i0_25 : zfetch 0 25 = some (0, .iload_n 3, 1) := by decide +kernel
theorem i0_26 : zfetch 0 26 = some (0, .iaload, 1) := by decide +kernel
theorem i0_27 : zfetch 0 27 = some (0, .iastore, 1) := by decide +kernel
theorem i0_28 : zfetch 0 28 = some (0, .iinc 3 1, 3) := by decide +kernel
theorem i0_31 : zfetch 0 31 = some (0, .goto (-29), 3) := by decide +kernel
theorem i0_34 : zfetch 0 34 = some (0, .aload_n 0, 1) := by decide +kernel
theorem i0_35 : zfetch 0 35 = some (0, .iload_n 2, 1) := by decide +kernel
theorem i0_36 : zfetch 0 36 = some (0, .putfield 22, 3) := by decide +kernel
theorem i0_39 : zfetch 0 39 = some (0, .return_, 1) := by decide +kernel
theorem i1_0 : zfetch 1 0 = some (0, .iconst 0, 1) := by decide +kernel
theorem i1_1 : zfetch 1 1 = some (0, .istore 4, 2) := by decide +kernel
theorem i1_3 : zfetch 1 3 = some (0, .iconst 0, 1) := by decide +kernel
theorem i1_4 : zfetch 1 4 = some (0, .istore 5, 2) := by decide +kernel
theorem i1_6 : zfetch 1 6 = some (0, .iload 5, 2) := by decide +kernel
theorem i1_8 : zfetch 1 8 = some (0, .aload_n 0, 1) := by decide +kernel
theorem i1_9 : zfetch 1 9 = some (0, .getfield 22, 3) := by decide +kernel
theorem i1_12 : zfetch 1 12 = some (0, .if_icmp .ge 179, 3) := by decide +kernel
theorem i1_15 : zfetch 1 15 = some (0, .iload 5, 2) := by decide +kernel
theorem i1_17 : zfetch 1 17 = some (0, .bipush 60, 2) := by decide +kernel
theorem i1_19 : zfetch 1 19 = some (0, .if_icmp .ge 172, 3) := by decide +kernel
theorem i1_22 : zfetch 1 22 = some (0, .aload_n 0, 1) := by decide +kernel
theorem i1_23 : zfetch 1 23 = some (0, .getfield 9, 3) := by decide +kernel
theorem i1_26 : zfetch 1 26 = some (0, .iload 5, 2) := by decide +kernel
theorem i1_28 : zfetch 1 28 = some (0, .iaload, 1) := by decide +kernel
theorem i1_29 : zfetch 1 29 = some (0, .istore 6, 2) := by decide +kernel
theorem i1_31 : zfetch 1 31 = some (0, .iload 6, 2) := by decide +kernel
theorem i1_33 : zfetch 1 33 = some (0, .sipush 10000, 3) := by decide +kernel
theorem i1_36 : zfetch 1 36 = some (0, .if_icmp .ge 18, 3) := by decide +kernel
theorem i1_39 : zfetch 1 39 = some (0, .aload_n 0, 1) := by decide +kernel
theorem i1_40 : zfetch 1 40 = some (0, .getfield 15, 3) := by decide +kernel
theorem i1_43 : zfetch 1 43 = some (0, .iload 4, 2) := by decide +kernel
theorem i1_45 : zfetch 1 45 = some (0, .iload 6, 2) := by decide +kernel
theorem i1_47 : zfetch 1 47 = some (0, .iastore, 1) := by decide +kernel
theorem i1_48 : zfetch 1 48 = some (0, .iinc 4 1, 3) := by decide +kernel
theorem i1_51 : zfetch 1 51 = some (0, .goto 134, 3) := by decide +kernel
theorem i1_54 : zfetch 1 54 = some (0, .iload 6, 2) := by decide +kernel
theorem i1_56 : zfetch 1 56 = some (0, .sipush 20000, 3) := by decide +kernel
theorem i1_59 : zfetch 1 59 = some (0, .if_icmp .ge 41, 3) := by decide +kernel
theorem i1_62 : zfetch 1 62 = some (0, .aload_n 0, 1) := by decide +kernel
theorem i1_63 : zfetch 1 63 = some (0, .getfield 15, 3) := by decide +kernel
theorem i1_66 : zfetch 1 66 = some (0, .iload 4, 2) := by decide +kernel
theorem i1_68 : zfetch 1 68 = some (0, .iload 6, 2) := by decide +kernel
theorem i1_70 : zfetch 1 70 = some (0, .sipush 10000, 3) := by decide +kernel
theorem i1_73 : zfetch 1 73 = some (0, .if_icmp .ne 7, 3) := by decide +kernel
theorem i1_76 : zfetch 1 76 = some (0, .iload_n 1, 1) := by decide +kernel
theorem i1_77 : zfetch 1 77 = some (0, .goto 16, 3) := by decide +kernel
theorem i1_80 : zfetch 1 80 = some (0, .iload 6, 2) := by decide +kernel
theorem i1_82 : zfetch 1 82 = some (0, .sipush 10001, 3) := by decide +kernel
theorem i1_85 : zfetch 1 85 = some (0, .if_icmp .ne 7, 3) := by decide +kernel
theorem i1_88 : zfetch 1 88 = some (0, .iload_n 2, 1) := by decide +kernel
theorem i1_89 : zfetch 1 89 = some (0, .goto 4, 3) := by decide +kernel
theorem i1_92 : zfetch 1 92 = some (0, .iload_n 3, 1) := by decide +kernel
theorem i1_93 : zfetch 1 93 = some (0, .iastore, 1) := by decide +kernel
theorem i1_94 : zfetch 1 94 = some (0, .iinc 4 1, 3) := by decide +kernel
theorem i1_97 : zfetch 1 97 = some (0, .goto 88, 3) := by decide +kernel
theorem i1_100 : zfetch 1 100 = some (0, .iload 6, 2) := by decide +kernel
theorem i1_102 : zfetch 1 102 = some (0, .sipush 20033, 3) := by decide +kernel
theorem i1_105 : zfetch 1 105 = some (0, .if_icmp .ne 37, 3) := by decide +kernel
theorem i1_108 : zfetch 1 108 = some (0, .iload 4, 2) := by decide +kernel
theorem i1_110 : zfetch 1 110 = some (0, .ifCond .le 75, 3) := by decide +kernel
theorem i1_113 : zfetch 1 113 = some (0, .aload_n 0, 1) := by decide +kernel
theorem i1_114 : zfetch 1 114 = some (0, .getfield 15, 3) := by decide +kernel
theorem i1_117 : zfetch 1 117 = some (0, .iload 4, 2) := by decide +kernel
theorem i1_119 : zfetch 1 119 = some (0, .iconst 1, 1) := by decide +kernel
theorem i1_120 : zfetch 1 120 = some (0, .isub, 1) := by decide +kernel
theorem i1_121 : zfetch 1 121 = some (0, .aload_n 0, 1) := by decide +kernel
theorem i1_122 : zfetch 1 122 = some (0, .getfield 15, 3) := by decide +kernel
theorem i1_125 : zfetch 1 125 = some (0, .iload 4, 2) := by decide +kernel
theorem i1_127 : zfetch 1 127 = some (0, .iconst 1, 1) := by decide +kernel
theorem i1_128 : zfetch 1 128 = some (0, .isub, 1) := by decide +kernel
theorem i1_129 : zfetch 1 129 = some (0, .iaload, 1) := by decide +kernel
theorem i1_130 : zfetch 1 130 = some (0, .ifCond .ne 7, 3) := by decide +kernel
theorem i1_133 : zfetch 1 133 = some (0, .iconst 1, 1) := by decide +kernel
theorem i1_134 : zfetch 1 134 = some (0, .goto 4, 3) := by decide +kernel
theorem i1_137 : zfetch 1 137 = some (0, .iconst 0, 1) := by decide +kernel
theorem i1_138 : zfetch 1 138 = some (0, .iastore, 1) := by decide +kernel
theorem i1_139 : zfetch 1 139 = some (0, .goto 46, 3) := by decide +kernel
theorem i1_142 : zfetch 1 142 = some (0, .iload 4, 2) := by decide +kernel
theorem i1_144 : zfetch 1 144 = some (0, .iconst 1, 1) := by decide +kernel
theorem i1_145 : zfetch 1 145 = some (0, .if_icmp .le 40, 3) := by decide +kernel
theorem i1_148 : zfetch 1 148 = some (0, .iinc 4 (-1), 3) := by decide +kernel
theorem i1_151 : zfetch 1 151 = some (0, .aload_n 0, 1) := by decide +kernel
theorem i1_152 : zfetch 1 152 = some (0, .getfield 15, 3) := by decide +kernel
theorem i1_155 : zfetch 1 155 = some (0, .iload 4, 2) := by decide +kernel
theorem i1_157 : zfetch 1 157 = some (0, .iconst 1, 1) := by decide +kernel
theorem i1_158 : zfetch 1 158 = some (0, .isub, 1) := by decide +kernel
theorem i1_159 : zfetch 1 159 = some (0, .iload 6, 2) := by decide +kernel
theorem i1_161 : zfetch 1 161 = some (0, .sipush 20000, 3) := by decide +kernel
theorem i1_164 : zfetch 1 164 = some (0, .isub, 1) := by decide +kernel
theorem i1_165 : zfetch 1 165 = some (0, .aload_n 0, 1) := by decide +kernel
theorem i1_166 : zfetch 1 166 = some (0, .getfield 15, 3) := by decide +kernel
theorem i1_169 : zfetch 1 169 = some (0, .iload 4, 2) := by decide +kernel
theorem i1_171 : zfetch 1 171 = some (0, .iconst 1, 1) := by decide +kernel
theorem i1_172 : zfetch 1 172 = some (0, .isub, 1) := by decide +kernel
theorem i1_173 : zfetch 1 173 = some (0, .iaload, 1) := by decide +kernel
theorem i1_174 : zfetch 1 174 = some (0, .aload_n 0, 1) := by decide +kernel
theorem i1_175 : zfetch 1 175 = some (0, .getfield 15, 3) := by decide +kernel
theorem i1_178 : zfetch 1 178 = some (0, .iload 4, 2) := by decide +kernel
theorem i1_180 : zfetch 1 180 = some (0, .iaload, 1) := by decide +kernel
theorem i1_181 : zfetch 1 181 = some (0, .invokestatic 25, 3) := by decide +kernel
theorem i1_184 : zfetch 1 184 = some (0, .iastore, 1) := by decide +kernel
theorem i1_185 : zfetch 1 185 = some (0, .iinc 5 1, 3) := by decide +kernel
theorem i1_188 : zfetch 1 188 = some (0, .goto (-182), 3) := by decide +kernel
theorem i1_191 : zfetch 1 191 = some (0, .aload_n 0, 1) := by decide +kernel
theorem i1_192 : zfetch 1 192 = some (0, .getfield 22, 3) := by decide +kernel
theorem i1_195 : zfetch 1 195 = some (0, .ifCond .le 12, 3) := by decide +kernel
theorem i1_198 : zfetch 1 198 = some (0, .aload_n 0, 1) := by decide +kernel
theorem i1_199 : zfetch 1 199 = some (0, .getfield 15, 3) := by decide +kernel
theorem i1_202 : zfetch 1 202 = some (0, .iconst 0, 1) := by decide +kernel
theorem i1_203 : zfetch 1 203 = some (0, .iaload, 1) := by decide +kernel
theorem i1_204 : zfetch 1 204 = some (0, .goto 4, 3) := by decide +kernel
theorem i1_207 : zfetch 1 207 = some (0, .iload_n 1, 1) := by decide +kernel
theorem i1_208 : zfetch 1 208 = some (0, .istore 5, 2) := by decide +kernel
theorem i1_210 : zfetch 1 210 = some (0, .aload_n 0, 1) := by decide +kernel
theorem i1_211 : zfetch 1 211 = some (0, .getfield 18, 3) := by decide +kernel
theorem i1_214 : zfetch 1 214 = some (0, .ifCond .ne 12, 3) := by decide +kernel
theorem i1_217 : zfetch 1 217 = some (0, .iload 5, 2) := by decide +kernel
theorem i1_219 : zfetch 1 219 = some (0, .iconst 4, 1) := by decide +kernel
theorem i1_220 : zfetch 1 220 = some (0, .invokestatic 29, 3) := by decide +kernel
theorem i1_223 : zfetch 1 223 = some (0, .goto 14, 3) := by decide +kernel
theorem i1_226 : zfetch 1 226 = some (0, .iconst 0, 1) := by decide +kernel
theorem i1_227 : zfetch 1 227 = some (0, .bipush 9, 2) := by decide +kernel
theorem i1_229 : zfetch 1 229 = some (0, .iload 5, 2) := by decide +kernel
theorem i1_231 : zfetch 1 231 = some (0, .invokestatic 35, 3) := by decide +kernel
theorem i1_234 : zfetch 1 234 = some (0, .invokestatic 38, 3) := by decide +kernel
theorem i1_237 : zfetch 1 237 = some (0, .ireturn, 1) := by decide +kernel
theorem i2_0 : zfetch 2 0 = some (0, .iload_n 0, 1) := by decide +kernel
theorem i2_1 : zfetch 2 1 = some (0, .lookupswitch 168 #[(38, 97), (42, 152), (43, 144), (45, 148), (47, 156), (60, 111), (61, 122), (62, 133), (124, 83)], 83) := by decide +kernel
theorem i2_84 : zfetch 2 84 = some (0, .iload_n 1, 1) := by decide +kernel
theorem i2_85 : zfetch 2 85 = some (0, .ifCond .ne 7, 3) := by decide +kernel
theorem i2_88 : zfetch 2 88 = some (0, .iload_n 2, 1) := by decide +kernel
theorem i2_89 : zfetch 2 89 = some (0, .ifCond .eq 7, 3) := by decide +kernel
theorem i2_92 : zfetch 2 92 = some (0, .iconst 1, 1) := by decide +kernel
theorem i2_93 : zfetch 2 93 = some (0, .goto 4, 3) := by decide +kernel
theorem i2_96 : zfetch 2 96 = some (0, .iconst 0, 1) := by decide +kernel
theorem i2_97 : zfetch 2 97 = some (0, .ireturn, 1) := by decide +kernel
theorem i2_98 : zfetch 2 98 = some (0, .iload_n 1, 1) := by decide +kernel
theorem i2_99 : zfetch 2 99 = some (0, .ifCond .eq 11, 3) := by decide +kernel
theorem i2_102 : zfetch 2 102 = some (0, .iload_n 2, 1) := by decide +kernel
theorem i2_103 : zfetch 2 103 = some (0, .ifCond .eq 7, 3) := by decide +kernel
theorem i2_106 : zfetch 2 106 = some (0, .iconst 1, 1) := by decide +kernel
theorem i2_107 : zfetch 2 107 = some (0, .goto 4, 3) := by decide +kernel
theorem i2_110 : zfetch 2 110 = some (0, .iconst 0, 1) := by decide +kernel
theorem i2_111 : zfetch 2 111 = some (0, .ireturn, 1) := by decide +kernel
theorem i2_112 : zfetch 2 112 = some (0, .iload_n 1, 1) := by decide +kernel
theorem i2_113 : zfetch 2 113 = some (0, .iload_n 2, 1) := by decide +kernel
theorem i2_114 : zfetch 2 114 = some (0, .if_icmp .ge 7, 3) := by decide +kernel
theorem i2_117 : zfetch 2 117 = some (0, .iconst 1, 1) := by decide +kernel
theorem i2_118 : zfetch 2 118 = some (0, .goto 4, 3) := by decide +kernel
theorem i2_121 : zfetch 2 121 = some (0, .iconst 0, 1) := by decide +kernel
theorem i2_122 : zfetch 2 122 = some (0, .ireturn, 1) := by decide +kernel
theorem i2_123 : zfetch 2 123 = some (0, .iload_n 1, 1) := by decide +kernel
theorem i2_124 : zfetch 2 124 = some (0, .iload_n 2, 1) := by decide +kernel
theorem i2_125 : zfetch 2 125 = some (0, .if_icmp .ne 7, 3) := by decide +kernel
theorem i2_128 : zfetch 2 128 = some (0, .iconst 1, 1) := by decide +kernel
theorem i2_129 : zfetch 2 129 = some (0, .goto 4, 3) := by decide +kernel
theorem i2_132 : zfetch 2 132 = some (0, .iconst 0, 1) := by decide +kernel
theorem i2_133 : zfetch 2 133 = some (0, .ireturn, 1) := by decide +kernel
theorem i2_134 : zfetch 2 134 = some (0, .iload_n 1, 1) := by decide +kernel
theorem i2_135 : zfetch 2 135 = some (0, .iload_n 2, 1) := by decide +kernel
theorem i2_136 : zfetch 2 136 = some (0, .if_icmp .le 7, 3) := by decide +kernel
theorem i2_139 : zfetch 2 139 = some (0, .iconst 1, 1) := by decide +kernel
theorem i2_140 : zfetch 2 140 = some (0, .goto 4, 3) := by decide +kernel
theorem i2_143 : zfetch 2 143 = some (0, .iconst 0, 1) := by decide +kernel
theorem i2_144 : zfetch 2 144 = some (0, .ireturn, 1) := by decide +kernel
theorem i2_145 : zfetch 2 145 = some (0, .iload_n 1, 1) := by decide +kernel
theorem i2_146 : zfetch 2 146 = some (0, .iload_n 2, 1) := by decide +kernel
theorem i2_147 : zfetch 2 147 = some (0, .iadd, 1) := by decide +kernel
theorem i2_148 : zfetch 2 148 = some (0, .ireturn, 1) := by decide +kernel
theorem i2_149 : zfetch 2 149 = some (0, .iload_n 1, 1) := by decide +kernel
theorem i2_150 : zfetch 2 150 = some (0, .iload_n 2, 1) := by decide +kernel
theorem i2_151 : zfetch 2 151 = some (0, .isub, 1) := by decide +kernel
theorem i2_152 : zfetch 2 152 = some (0, .ireturn, 1) := by decide +kernel
theorem i2_153 : zfetch 2 153 = some (0, .iload_n 1, 1) := by decide +kernel
theorem i2_154 : zfetch 2 154 = some (0, .iload_n 2, 1) := by decide +kernel
theorem i2_155 : zfetch 2 155 = some (0, .imul, 1) := by decide +kernel
theorem i2_156 : zfetch 2 156 = some (0, .ireturn, 1) := by decide +kernel
theorem i2_157 : zfetch 2 157 = some (0, .iload_n 2, 1) := by decide +kernel
theorem i2_158 : zfetch 2 158 = some (0, .ifCond .ne 7, 3) := by decide +kernel
theorem i2_161 : zfetch 2 161 = some (0, .iconst 0, 1) := by decide +kernel
theorem i2_162 : zfetch 2 162 = some (0, .goto 6, 3) := by decide +kernel
theorem i2_165 : zfetch 2 165 = some (0, .iload_n 1, 1) := by decide +kernel
theorem i2_166 : zfetch 2 166 = some (0, .iload_n 2, 1) := by decide +kernel
theorem i2_167 : zfetch 2 167 = some (0, .idiv, 1) := by decide +kernel
theorem i2_168 : zfetch 2 168 = some (0, .ireturn, 1) := by decide +kernel
theorem i2_169 : zfetch 2 169 = some (0, .iload_n 2, 1) := by decide +kernel
theorem i2_170 : zfetch 2 170 = some (0, .ifCond .ne 7, 3) := by decide +kernel
theorem i2_173 : zfetch 2 173 = some (0, .iconst 0, 1) := by decide +kernel
theorem i2_174 : zfetch 2 174 = some (0, .goto 6, 3) := by decide +kernel
theorem i2_177 : zfetch 2 177 = some (0, .iload_n 1, 1) := by decide +kernel
theorem i2_178 : zfetch 2 178 = some (0, .iload_n 2, 1) := by decide +kernel
theorem i2_179 : zfetch 2 179 = some (0, .irem, 1) := by decide +kernel
theorem i2_180 : zfetch 2 180 = some (0, .ireturn, 1) := by decide +kernel
theorem i3_0 : zfetch 3 0 = some (1, .aload_n 0, 1) := by decide +kernel
theorem i3_1 : zfetch 3 1 = some (1, .iconst 0, 1) := by decide +kernel
theorem i3_2 : zfetch 3 2 = some (1, .putfield 18, 3) := by decide +kernel
theorem i3_5 : zfetch 3 5 = some (1, .aload_n 0, 1) := by decide +kernel
theorem i3_6 : zfetch 3 6 = some (1, .iconst 0, 1) := by decide +kernel
theorem i3_7 : zfetch 3 7 = some (1, .putfield 22, 3) := by decide +kernel
theorem i3_10 : zfetch 3 10 = some (1, .aload_n 0, 1) := by decide +kernel
theorem i3_11 : zfetch 3 11 = some (1, .iconst 0, 1) := by decide +kernel
theorem i3_12 : zfetch 3 12 = some (1, .putfield 25, 3) := by decide +kernel
theorem i3_15 : zfetch 3 15 = some (1, .aload_n 0, 1) := by decide +kernel
theorem i3_16 : zfetch 3 16 = some (1, .iconst 1, 1) := by decide +kernel
theorem i3_17 : zfetch 3 17 = some (1, .putfield 28, 3) := by decide +kernel
theorem i3_20 : zfetch 3 20 = some (1, .iconst 0, 1) := by decide +kernel
theorem i3_21 : zfetch 3 21 = some (1, .istore_n 3, 1) := by decide +kernel
theorem i3_22 : zfetch 3 22 = some (1, .iconst 0, 1) := by decide +kernel
theorem i3_23 : zfetch 3 23 = some (1, .istore 4, 2) := by decide +kernel
theorem i3_25 : zfetch 3 25 = some (1, .iload 4, 2) := by decide +kernel
theorem i3_27 : zfetch 3 27 = some (1, .bipush 60, 2) := by decide +kernel
theorem i3_29 : zfetch 3 29 = some (1, .if_icmp .ge 58, 3) := by decide +kernel
theorem i3_32 : zfetch 3 32 = some (1, .iload_n 3, 1) := by decide +kernel
theorem i3_33 : zfetch 3 33 = some (1, .aload_n 1, 1) := by decide +kernel
theorem i3_34 : zfetch 3 34 = some (1, .getfield 32, 3) := by decide +kernel
theorem i3_37 : zfetch 3 37 = some (1, .if_icmp .ge 50, 3) := by decide +kernel
theorem i3_40 : zfetch 3 40 = some (1, .aload_n 0, 1) := by decide +kernel
theorem i3_41 : zfetch 3 41 = some (1, .getfield 28, 3) := by decide +kernel
theorem i3_44 : zfetch 3 44 = some (1, .ifCond .eq 13, 3) := by decide +kernel
theorem i3_47 : zfetch 3 47 = some (1, .aload_n 0, 1) := by decide +kernel
theorem i3_48 : zfetch 3 48 = some (1, .aload_n 1, 1) := by decide +kernel
theorem i3_49 : zfetch 3 49 = some (1, .iload_n 3, 1) := by decide +kernel
theorem i3_50 : zfetch 3 50 = some (1, .iload_n 2, 1) := by decide +kernel
theorem i3_51 : zfetch 3 51 = some (1, .invokevirtual 35, 3) := by decide +kernel
theorem i3_54 : zfetch 3 54 = some (1, .goto 13, 3) := by decide +kernel
theorem i3_57 : zfetch 3 57 = some (1, .aload_n 0, 1) := by decide +kernel
theorem i3_58 : zfetch 3 58 = some (1, .aload_n 1, 1) := by decide +kernel
theorem i3_59 : zfetch 3 59 = some (1, .getfield 39, 3) := by decide +kernel
theorem i3_62 : zfetch 3 62 = some (1, .iload_n 3, 1) := by decide +kernel
theorem i3_63 : zfetch 3 63 = some (1, .iaload, 1) := by decide +kernel
theorem i3_64 : zfetch 3 64 = some (1, .invokevirtual 42, 3) := by decide +kernel
theorem i3_67 : zfetch 3 67 = some (1, .istore 5, 2) := by decide +kernel
theorem i3_69 : zfetch 3 69 = some (1, .iload 5, 2) := by decide +kernel
theorem i3_71 : zfetch 3 71 = some (1, .ifCond .ne 5, 3) := by decide +kernel
theorem i3_74 : zfetch 3 74 = some (1, .iload_n 3, 1) := by decide +kernel
theorem i3_75 : zfetch 3 75 = some (1, .ireturn, 1) := by decide +kernel
theorem i3_76 : zfetch 3 76 = some (1, .iload_n 3, 1) := by decide +kernel
theorem i3_77 : zfetch 3 77 = some (1, .iload 5, 2) := by decide +kernel
theorem i3_79 : zfetch 3 79 = some (1, .iadd, 1) := by decide +kernel
theorem i3_80 : zfetch 3 80 = some (1, .istore_n 3, 1) := by decide +kernel
theorem i3_81 : zfetch 3 81 = some (1, .iinc 4 1, 3) := by decide +kernel
theorem i3_84 : zfetch 3 84 = some (1, .goto (-59), 3) := by decide +kernel
theorem i3_87 : zfetch 3 87 = some (1, .aload_n 0, 1) := by decide +kernel
theorem i3_88 : zfetch 3 88 = some (1, .getfield 28, 3) := by decide +kernel
theorem i3_91 : zfetch 3 91 = some (1, .ifCond .eq 8, 3) := by decide +kernel
theorem i3_94 : zfetch 3 94 = some (1, .aload_n 1, 1) := by decide +kernel
theorem i3_95 : zfetch 3 95 = some (1, .getfield 32, 3) := by decide +kernel
theorem i3_98 : zfetch 3 98 = some (1, .ireturn, 1) := by decide +kernel
theorem i3_99 : zfetch 3 99 = some (1, .aload_n 0, 1) := by decide +kernel
theorem i3_100 : zfetch 3 100 = some (1, .iconst 1, 1) := by decide +kernel
theorem i3_101 : zfetch 3 101 = some (1, .invokevirtual 46, 3) := by decide +kernel
theorem i3_104 : zfetch 3 104 = some (1, .aload_n 0, 1) := by decide +kernel
theorem i3_105 : zfetch 3 105 = some (1, .getfield 22, 3) := by decide +kernel
theorem i3_108 : zfetch 3 108 = some (1, .ifCond .le 10, 3) := by decide +kernel
theorem i3_111 : zfetch 3 111 = some (1, .aload_n 1, 1) := by decide +kernel
theorem i3_112 : zfetch 3 112 = some (1, .getfield 32, 3) := by decide +kernel
theorem i3_115 : zfetch 3 115 = some (1, .goto 4, 3) := by decide +kernel
theorem i3_118 : zfetch 3 118 = some (1, .iconst (-1), 1) := by decide +kernel
theorem i3_119 : zfetch 3 119 = some (1, .ireturn, 1) := by decide +kernel
theorem i4_0 : zfetch 4 0 = some (1, .aload_n 1, 1) := by decide +kernel
theorem i4_1 : zfetch 4 1 = some (1, .getfield 39, 3) := by decide +kernel
theorem i4_4 : zfetch 4 4 = some (1, .iload_n 2, 1) := by decide +kernel
theorem i4_5 : zfetch 4 5 = some (1, .iaload, 1) := by decide +kernel
theorem i4_6 : zfetch 4 6 = some (1, .istore 4, 2) := by decide +kernel
theorem i4_8 : zfetch 4 8 = some (1, .iload 4, 2) := by decide +kernel
theorem i4_10 : zfetch 4 10 = some (1, .bipush 33, 2) := by decide +kernel
theorem i4_12 : zfetch 4 12 = some (1, .if_icmp .eq 10, 3) := by decide +kernel
theorem i4_15 : zfetch 4 15 = some (1, .iload 4, 2) := by decide +kernel
theorem i4_17 : zfetch 4 17 = some (1, .bipush 40, 2) := by decide +kernel
theorem i4_19 : zfetch 4 19 = some (1, .if_icmp .ne 10, 3) := by decide +kernel
theorem i4_22 : zfetch 4 22 = some (1, .aload_n 0, 1) := by decide +kernel
theorem i4_23 : zfetch 4 23 = some (1, .iload 4, 2) := by decide +kernel
theorem i4_25 : zfetch 4 25 = some (1, .invokevirtual 50, 3) := by decide +kernel
theorem i4_28 : zfetch 4 28 = some (1, .ireturn, 1) := by decide +kernel
theorem i4_29 : zfetch 4 29 = some (1, .aload_n 1, 1) := by decide +kernel
theorem i4_30 : zfetch 4 30 = some (1, .iload_n 2, 1) := by decide +kernel
theorem i4_31 : zfetch 4 31 = some (1, .invokestatic 53, 3) := by decide +kernel
theorem i4_34 : zfetch 4 34 = some (1, .istore 5, 2) := by decide +kernel
theorem i4_36 : zfetch 4 36 = some (1, .iload 5, 2) := by decide +kernel
theorem i4_38 : zfetch 4 38 = some (1, .ifCond .le 17, 3) := by decide +kernel
theorem i4_41 : zfetch 4 41 = some (1, .aload_n 0, 1) := by decide +kernel
theorem i4_42 : zfetch 4 42 = some (1, .aload_n 1, 1) := by decide +kernel
theorem i4_43 : zfetch 4 43 = some (1, .iload_n 2, 1) := by decide +kernel
theorem i4_44 : zfetch 4 44 = some (1, .iload 5, 2) := by decide +kernel
theorem i4_46 : zfetch 4 46 = some (1, .invokestatic 57, 3) := by decide +kernel
theorem i4_49 : zfetch 4 49 = some (1, .invokevirtual 60, 3) := by decide +kernel
theorem i4_52 : zfetch 4 52 = some (1, .goto 31, 3) := by decide +kernel
theorem i4_55 : zfetch 4 55 = some (1, .iload 4, 2) := by decide +kernel
theorem i4_57 : zfetch 4 57 = some (1, .iload_n 3, 1) := by decide +kernel
theorem i4_58 : zfetch 4 58 = some (1, .invokestatic 63, 3) := by decide +kernel
theorem i4_61 : zfetch 4 61 = some (1, .istore 6, 2) := by decide +kernel
theorem i4_63 : zfetch 4 63 = some (1, .iload 6, 2) := by decide +kernel
theorem i4_65 : zfetch 4 65 = some (1, .ifCond .ge 5, 3) := by decide +kernel
theorem i4_68 : zfetch 4 68 = some (1, .iconst 0, 1) := by decide +kernel
theorem i4_69 : zfetch 4 69 = some (1, .ireturn, 1) := by decide +kernel
theorem i4_70 : zfetch 4 70 = some (1, .aload_n 0, 1) := by decide +kernel
theorem i4_71 : zfetch 4 71 = some (1, .sipush 10000, 3) := by decide +kernel
theorem i4_74 : zfetch 4 74 = some (1, .iload 6, 2) := by decide +kernel
theorem i4_76 : zfetch 4 76 = some (1, .iadd, 1) := by decide +kernel
theorem i4_77 : zfetch 4 77 = some (1, .invokevirtual 60, 3) := by decide +kernel
theorem i4_80 : zfetch 4 80 = some (1, .iconst 1, 1) := by decide +kernel
theorem i4_81 : zfetch 4 81 = some (1, .istore 5, 2) := by decide +kernel
theorem i4_83 : zfetch 4 83 = some (1, .aload_n 0, 1) := by decide +kernel
theorem i4_84 : zfetch 4 84 = some (1, .invokevirtual 69, 3) := by decide +kernel
theorem i4_87 : zfetch 4 87 = some (1, .iload 5, 2) := by decide +kernel
theorem i4_89 : zfetch 4 89 = some (1, .ireturn, 1) := by decide +kernel
theorem i5_0 : zfetch 5 0 = some (1, .aload_n 0, 1) := by decide +kernel
theorem i5_1 : zfetch 5 1 = some (1, .getfield 25, 3) := by decide +kernel
theorem i5_4 : zfetch 5 4 = some (1, .iconst 5, 1) := by decide +kernel
theorem i5_5 : zfetch 5 5 = some (1, .if_icmp .lt 5, 3) := by decide +kernel
theorem i5_8 : zfetch 5 8 = some (1, .iconst 0, 1) := by decide +kernel
theorem i5_9 : zfetch 5 9 = some (1, .ireturn, 1) := by decide +kernel
theorem i5_10 : zfetch 5 10 = some (1, .aload_n 0, 1) := by decide +kernel
theorem i5_11 : zfetch 5 11 = some (1, .dup, 1) := by decide +kernel
theorem i5_12 : zfetch 5 12 = some (1, .getfield 25, 3) := by decide +kernel
theorem i5_15 : zfetch 5 15 = some (1, .iconst 1, 1) := by decide +kernel
theorem i5_16 : zfetch 5 16 = some (1, .iadd, 1) := by decide +kernel
theorem i5_17 : zfetch 5 17 = some (1, .putfield 25, 3) := by decide +kernel
theorem i5_20 : zfetch 5 20 = some (1, .aload_n 0, 1) := by decide +kernel
theorem i5_21 : zfetch 5 21 = some (1, .iload_n 1, 1) := by decide +kernel
theorem i5_22 : zfetch 5 22 = some (1, .invokevirtual 72, 3) := by decide +kernel
theorem i5_25 : zfetch 5 25 = some (1, .iconst 1, 1) := by decide +kernel
theorem i5_26 : zfetch 5 26 = some (1, .ireturn, 1) := by decide +kernel
theorem i6_0 : zfetch 6 0 = some (1, .iconst 0, 1) := by decide +kernel
theorem i6_1 : zfetch 6 1 = some (1, .istore_n 2, 1) := by decide +kernel
theorem i6_2 : zfetch 6 2 = some (1, .iload_n 1, 1) := by decide +kernel
theorem i6_3 : zfetch 6 3 = some (1, .istore_n 3, 1) := by decide +kernel
theorem i6_4 : zfetch 6 4 = some (1, .iload_n 3, 1) := by decide +kernel
theorem i6_5 : zfetch 6 5 = some (1, .aload_n 0, 1) := by decide +kernel
theorem i6_6 : zfetch 6 6 = some (1, .getfield 32, 3) := by decide +kernel
theorem i6_9 : zfetch 6 9 = some (1, .if_icmp .ge 29, 3) := by decide +kernel
theorem i6_12 : zfetch 6 12 = some (1, .iload_n 2, 1) := by decide +kernel
theorem i6_13 : zfetch 6 13 = some (1, .iconst 4, 1) := by decide +kernel
theorem i6_14 : zfetch 6 14 = some (1, .if_icmp .ge 24, 3) := by decide +kernel
theorem i6_17 : zfetch 6 17 = some (1, .aload_n 0, 1) := by decide +kernel
theorem i6_18 : zfetch 6 18 = some (1, .getfield 39, 3) := by decide +kernel
theorem i6_21 : zfetch 6 21 = some (1, .iload_n 3, 1) := by decide +kernel
theorem i6_22 : zfetch 6 22 = some (1, .iaload, 1) := by decide +kernel
theorem i6_23 : zfetch 6 23 = some (1, .invokestatic 75, 3) := by decide +kernel
theorem i6_26 : zfetch 6 26 = some (1, .ifCond .eq 12, 3) := by decide +kernel
theorem i6_29 : zfetch 6 29 = some (1, .iinc 2 1, 3) := by decide +kernel
theorem i6_32 : zfetch 6 32 = some (1, .iinc 3 1, 3) := by decide +kernel
theorem i6_35 : zfetch 6 35 = some (1, .goto (-31), 3) := by decide +kernel
theorem i6_38 : zfetch 6 38 = some (1, .iload_n 2, 1) := by decide +kernel
theorem i6_39 : zfetch 6 39 = some (1, .ireturn, 1) := by decide +kernel
theorem i7_0 : zfetch 7 0 = some (1, .iload_n 0, 1) := by decide +kernel
theorem i7_1 : zfetch 7 1 = some (1, .bipush 48, 2) := by decide +kernel
theorem i7_3 : zfetch 7 3 = some (1, .if_icmp .lt 13, 3) := by decide +kernel
theorem i7_6 : zfetch 7 6 = some (1, .iload_n 0, 1) := by decide +kernel
theorem i7_7 : zfetch 7 7 = some (1, .bipush 57, 2) := by decide +kernel
theorem i7_9 : zfetch 7 9 = some (1, .if_icmp .gt 7, 3) := by decide +kernel
theorem i7_12 : zfetch 7 12 = some (1, .iconst 1, 1) := by decide +kernel
theorem i7_13 : zfetch 7 13 = some (1, .goto 4, 3) := by decide +kernel
theorem i7_16 : zfetch 7 16 = some (1, .iconst 0, 1) := by decide +kernel
theorem i7_17 : zfetch 7 17 = some (1, .ireturn, 1) := by decide +kernel
theorem i8_0 : zfetch 8 0 = some (1, .iconst 0, 1) := by decide +kernel
theorem i8_1 : zfetch 8 1 = some (1, .istore_n 3, 1) := by decide +kernel
theorem i8_2 : zfetch 8 2 = some (1, .iload_n 1, 1) := by decide +kernel
theorem i8_3 : zfetch 8 3 = some (1, .istore 4, 2) := by decide +kernel
theorem i8_5 : zfetch 8 5 = some (1, .iload 4, 2) := by decide +kernel
theorem i8_7 : zfetch 8 7 = some (1, .iload_n 1, 1) := by decide +kernel
theorem i8_8 : zfetch 8 8 = some (1, .iload_n 2, 1) := by decide +kernel
theorem i8_9 : zfetch 8 9 = some (1, .iadd, 1) := by decide +kernel
theorem i8_10 : zfetch 8 10 = some (1, .if_icmp .ge 34, 3) := by decide +kernel
theorem i8_13 : zfetch 8 13 = some (1, .iload 4, 2) := by decide +kernel
theorem i8_15 : zfetch 8 15 = some (1, .aload_n 0, 1) := by decide +kernel
theorem i8_16 : zfetch 8 16 = some (1, .getfield 32, 3) := by decide +kernel
theorem i8_19 : zfetch 8 19 = some (1, .if_icmp .ge 25, 3) := by decide +kernel
theorem i8_22 : zfetch 8 22 = some (1, .iload_n 3, 1) := by decide +kernel
theorem i8_23 : zfetch 8 23 = some (1, .bipush 10, 2) := by decide +kernel
theorem i8_25 : zfetch 8 25 = some (1, .imul, 1) := by decide +kernel
theorem i8_26 : zfetch 8 26 = some (1, .aload_n 0, 1) := by decide +kernel
theorem i8_27 : zfetch 8 27 = some (1, .getfield 39, 3) := by decide +kernel
theorem i8_30 : zfetch 8 30 = some (1, .iload 4, 2) := by decide +kernel
theorem i8_32 : zfetch 8 32 = some (1, .iaload, 1) := by decide +kernel
theorem i8_33 : zfetch 8 33 = some (1, .iadd, 1) := by decide +kernel
theorem i8_34 : zfetch 8 34 = some (1, .bipush 48, 2) := by decide +kernel
theorem i8_36 : zfetch 8 36 = some (1, .isub, 1) := by decide +kernel
theorem i8_37 : zfetch 8 37 = some (1, .istore_n 3, 1) := by decide +kernel
theorem i8_38 : zfetch 8 38 = some (1, .iinc 4 1, 3) := by decide +kernel
theorem i8_41 : zfetch 8 41 = some (1, .goto (-36), 3) := by decide +kernel
theorem i8_44 : zfetch 8 44 = some (1, .iload_n 3, 1) := by decide +kernel
theorem i8_45 : zfetch 8 45 = some (1, .ireturn, 1) := by decide +kernel
theorem i9_0 : zfetch 9 0 = some (1, .iconst 0, 1) := by decide +kernel
theorem i9_1 : zfetch 9 1 = some (1, .istore_n 2, 1) := by decide +kernel
theorem i9_2 : zfetch 9 2 = some (1, .iload_n 2, 1) := by decide +kernel
theorem i9_3 : zfetch 9 3 = some (1, .iconst 3, 1) := by decide +kernel
theorem i9_4 : zfetch 9 4 = some (1, .if_icmp .ge 30, 3) := by decide +kernel
theorem i9_7 : zfetch 9 7 = some (1, .getstatic 79, 3) := by decide +kernel
theorem i9_10 : zfetch 9 10 = some (1, .iload_n 1, 1) := by decide +kernel
theorem i9_11 : zfetch 9 11 = some (1, .ifCond .ne 7, 3) := by decide +kernel
theorem i9_14 : zfetch 9 14 = some (1, .iload_n 2, 1) := by decide +kernel
theorem i9_15 : zfetch 9 15 = some (1, .goto 6, 3) := by decide +kernel
theorem i9_18 : zfetch 9 18 = some (1, .iconst 3, 1) := by decide +kernel
theorem i9_19 : zfetch 9 19 = some (1, .iload_n 2, 1) := by decide +kernel
theorem i9_20 : zfetch 9 20 = some (1, .iadd, 1) := by decide +kernel
theorem i9_21 : zfetch 9 21 = some (1, .caload, 1) := by decide +kernel
theorem i9_22 : zfetch 9 22 = some (1, .iload_n 0, 1) := by decide +kernel
theorem i9_23 : zfetch 9 23 = some (1, .if_icmp .ne 5, 3) := by decide +kernel
theorem i9_26 : zfetch 9 26 = some (1, .iload_n 2, 1) := by decide +kernel
theorem i9_27 : zfetch 9 27 = some (1, .ireturn, 1) := by decide +kernel
theorem i9_28 : zfetch 9 28 = some (1, .iinc 2 1, 3) := by decide +kernel
theorem i9_31 : zfetch 9 31 = some (1, .goto (-29), 3) := by decide +kernel
theorem i9_34 : zfetch 9 34 = some (1, .iconst (-1), 1) := by decide +kernel
theorem i9_35 : zfetch 9 35 = some (1, .ireturn, 1) := by decide +kernel
theorem i10_0 : zfetch 10 0 = some (1, .aload_n 0, 1) := by decide +kernel
theorem i10_1 : zfetch 10 1 = some (1, .iconst 0, 1) := by decide +kernel
theorem i10_2 : zfetch 10 2 = some (1, .putfield 28, 3) := by decide +kernel
theorem i10_5 : zfetch 10 5 = some (1, .aload_n 0, 1) := by decide +kernel
theorem i10_6 : zfetch 10 6 = some (1, .getfield 22, 3) := by decide +kernel
theorem i10_9 : zfetch 10 9 = some (1, .iconst 1, 1) := by decide +kernel
theorem i10_10 : zfetch 10 10 = some (1, .isub, 1) := by decide +kernel
theorem i10_11 : zfetch 10 11 = some (1, .istore_n 1, 1) := by decide +kernel
theorem i10_12 : zfetch 10 12 = some (1, .iload_n 1, 1) := by decide +kernel
theorem i10_13 : zfetch 10 13 = some (1, .ifCond .lt 47, 3) := by decide +kernel
theorem i10_16 : zfetch 10 16 = some (1, .aload_n 0, 1) := by decide +kernel
theorem i10_17 : zfetch 10 17 = some (1, .getfield 15, 3) := by decide +kernel
theorem i10_20 : zfetch 10 20 = some (1, .iload_n 1, 1) := by decide +kernel
theorem i10_21 : zfetch 10 21 = some (1, .iaload, 1) := by decide +kernel
theorem i10_22 : zfetch 10 22 = some (1, .bipush 33, 2) := by decide +kernel
theorem i10_24 : zfetch 10 24 = some (1, .if_icmp .ne 36, 3) := by decide +kernel
theorem i10_27 : zfetch 10 27 = some (1, .aload_n 0, 1) := by decide +kernel
theorem i10_28 : zfetch 10 28 = some (1, .sipush 20033, 3) := by decide +kernel
theorem i10_31 : zfetch 10 31 = some (1, .invokevirtual 60, 3) := by decide +kernel
theorem i10_34 : zfetch 10 34 = some (1, .aload_n 0, 1) := by decide +kernel
theorem i10_35 : zfetch 10 35 = some (1, .dup, 1) := by decide +kernel
theorem i10_36 : zfetch 10 36 = some (1, .getfield 22, 3) := by decide +kernel
theorem i10_39 : zfetch 10 39 = some (1, .iconst 1, 1) := by decide +kernel
theorem i10_40 : zfetch 10 40 = some (1, .isub, 1) := by decide +kernel
theorem i10_41 : zfetch 10 41 = some (1, .putfield 22, 3) := by decide +kernel
theorem i10_44 : zfetch 10 44 = some (1, .aload_n 0, 1) := by decide +kernel
theorem i10_45 : zfetch 10 45 = some (1, .dup, 1) := by decide +kernel
theorem i10_46 : zfetch 10 46 = some (1, .getfield 25, 3) := by decide +kernel
theorem i10_49 : zfetch 10 49 = some (1, .iconst 1, 1) := by decide +kernel
theorem i10_50 : zfetch 10 50 = some (1, .isub, 1) := by decide +kernel
theorem i10_51 : zfetch 10 51 = some (1, .putfield 25, 3) := by decide +kernel
theorem i10_54 : zfetch 10 54 = some (1, .iinc 1 (-1), 3) := by decide +kernel
theorem i10_57 : zfetch 10 57 = some (1, .goto (-45), 3) := by decide +kernel
theorem i10_60 : zfetch 10 60 = some (1, .return_, 1) := by decide +kernel
theorem i11_0 : zfetch 11 0 = some (1, .iload_n 1, 1) := by decide +kernel
theorem i11_1 : zfetch 11 1 = some (1, .bipush 41, 2) := by decide +kernel
theorem i11_3 : zfetch 11 3 = some (1, .if_icmp .ne 8, 3) := by decide +kernel
theorem i11_6 : zfetch 11 6 = some (1, .aload_n 0, 1) := by decide +kernel
theorem i11_7 : zfetch 11 7 = some (1, .invokevirtual 83, 3) := by decide +kernel
theorem i11_10 : zfetch 11 10 = some (1, .ireturn, 1) := by decide +kernel
theorem i11_11 : zfetch 11 11 = some (1, .iload_n 1, 1) := by decide +kernel
theorem i11_12 : zfetch 11 12 = some (1, .invokestatic 87, 3) := by decide +kernel
theorem i11_15 : zfetch 11 15 = some (1, .istore_n 2, 1) := by decide +kernel
theorem i11_16 : zfetch 11 16 = some (1, .iload_n 2, 1) := by decide +kernel
theorem i11_17 : zfetch 11 17 = some (1, .ifCond .ne 5, 3) := by decide +kernel
theorem i11_20 : zfetch 11 20 = some (1, .iconst 0, 1) := by decide +kernel
theorem i11_21 : zfetch 11 21 = some (1, .ireturn, 1) := by decide +kernel
theorem i11_22 : zfetch 11 22 = some (1, .iload_n 2, 1) := by decide +kernel
theorem i11_23 : zfetch 11 23 = some (1, .iconst 3, 1) := by decide +kernel
theorem i11_24 : zfetch 11 24 = some (1, .if_icmp .ne 35, 3) := by decide +kernel
theorem i11_27 : zfetch 11 27 = some (1, .aload_n 0, 1) := by decide +kernel
theorem i11_28 : zfetch 11 28 = some (1, .iconst 4, 1) := by decide +kernel
theorem i11_29 : zfetch 11 29 = some (1, .invokevirtual 46, 3) := by decide +kernel
theorem i11_32 : zfetch 11 32 = some (1, .aload_n 0, 1) := by decide +kernel
theorem i11_33 : zfetch 11 33 = some (1, .getfield 22, 3) := by decide +kernel
theorem i11_36 : zfetch 11 36 = some (1, .ifCond .le 28, 3) := by decide +kernel
theorem i11_39 : zfetch 11 39 = some (1, .aload_n 0, 1) := by decide +kernel
theorem i11_40 : zfetch 11 40 = some (1, .getfield 15, 3) := by decide +kernel
theorem i11_43 : zfetch 11 43 = some (1, .aload_n 0, 1) := by decide +kernel
theorem i11_44 : zfetch 11 44 = some (1, .getfield 22, 3) := by decide +kernel
theorem i11_47 : zfetch 11 47 = some (1, .iconst 1, 1) := by decide +kernel
theorem i11_48 : zfetch 11 48 = some (1, .isub, 1) := by decide +kernel
theorem i11_49 : zfetch 11 49 = some (1, .iaload, 1) := by decide +kernel
theorem i11_50 : zfetch 11 50 = some (1, .invokestatic 87, 3) := by decide +kernel
theorem i11_53 : zfetch 11 53 = some (1, .iconst 3, 1) := by decide +kernel
theorem i11_54 : zfetch 11 54 = some (1, .if_icmp .ne 10, 3) := by decide +kernel
theorem i11_57 : zfetch 11 57 = some (1, .iconst 0, 1) := by decide +kernel
theorem i11_58 : zfetch 11 58 = some (1, .ireturn, 1) := by decide +kernel
theorem i11_59 : zfetch 11 59 = some (1, .aload_n 0, 1) := by decide +kernel
theorem i11_60 : zfetch 11 60 = some (1, .iload_n 2, 1) := by decide +kernel
theorem i11_61 : zfetch 11 61 = some (1, .invokevirtual 46, 3) := by decide +kernel
theorem i11_64 : zfetch 11 64 = some (1, .aload_n 0, 1) := by decide +kernel
theorem i11_65 : zfetch 11 65 = some (1, .iload_n 1, 1) := by decide +kernel
theorem i11_66 : zfetch 11 66 = some (1, .invokevirtual 72, 3) := by decide +kernel
theorem i11_69 : zfetch 11 69 = some (1, .aload_n 0, 1) := by decide +kernel
theorem i11_70 : zfetch 11 70 = some (1, .iconst 1, 1) := by decide +kernel
theorem i11_71 : zfetch 11 71 = some (1, .putfield 28, 3) := by decide +kernel
theorem i11_74 : zfetch 11 74 = some (1, .iconst 1, 1) := by decide +kernel
theorem i11_75 : zfetch 11 75 = some (1, .ireturn, 1) := by decide +kernel
theorem i12_0 : zfetch 12 0 = some (1, .aload_n 0, 1) := by decide +kernel
theorem i12_1 : zfetch 12 1 = some (1, .iconst 1, 1) := by decide +kernel
theorem i12_2 : zfetch 12 2 = some (1, .invokevirtual 46, 3) := by decide +kernel
theorem i12_5 : zfetch 12 5 = some (1, .aload_n 0, 1) := by decide +kernel
theorem i12_6 : zfetch 12 6 = some (1, .getfield 22, 3) := by decide +kernel
theorem i12_9 : zfetch 12 9 = some (1, .ifCond .ne 5, 3) := by decide +kernel
theorem i12_12 : zfetch 12 12 = some (1, .iconst 0, 1) := by decide +kernel
theorem i12_13 : zfetch 12 13 = some (1, .ireturn, 1) := by decide +kernel
theorem i12_14 : zfetch 12 14 = some (1, .aload_n 0, 1) := by decide +kernel
theorem i12_15 : zfetch 12 15 = some (1, .dup, 1) := by decide +kernel
theorem i12_16 : zfetch 12 16 = some (1, .getfield 22, 3) := by decide +kernel
theorem i12_19 : zfetch 12 19 = some (1, .iconst 1, 1) := by decide +kernel
theorem i12_20 : zfetch 12 20 = some (1, .isub, 1) := by decide +kernel
theorem i12_21 : zfetch 12 21 = some (1, .putfield 22, 3) := by decide +kernel
theorem i12_24 : zfetch 12 24 = some (1, .aload_n 0, 1) := by decide +kernel
theorem i12_25 : zfetch 12 25 = some (1, .dup, 1) := by decide +kernel
theorem i12_26 : zfetch 12 26 = some (1, .getfield 25, 3) := by decide +kernel
theorem i12_29 : zfetch 12 29 = some (1, .iconst 1, 1) := by decide +kernel
theorem i12_30 : zfetch 12 30 = some (1, .isub, 1) := by decide +kernel
theorem i12_31 : zfetch 12 31 = some (1, .putfield 25, 3) := by decide +kernel
theorem i12_34 : zfetch 12 34 = some (1, .aload_n 0, 1) := by decide +kernel
theorem i12_35 : zfetch 12 35 = some (1, .invokevirtual 69, 3) := by decide +kernel
theorem i12_38 : zfetch 12 38 = some (1, .iconst 1, 1) := by decide +kernel
theorem i12_39 : zfetch 12 39 = some (1, .ireturn, 1) := by decide +kernel
theorem i13_0 : zfetch 13 0 = some (1, .aload_n 0, 1) := by decide +kernel
theorem i13_1 : zfetch 13 1 = some (1, .getfield 22, 3) := by decide +kernel
theorem i13_4 : zfetch 13 4 = some (1, .iconst 1, 1) := by decide +kernel
theorem i13_5 : zfetch 13 5 = some (1, .isub, 1) := by decide +kernel
theorem i13_6 : zfetch 13 6 = some (1, .istore_n 2, 1) := by decide +kernel
theorem i13_7 : zfetch 13 7 = some (1, .iload_n 2, 1) := by decide +kernel
theorem i13_8 : zfetch 13 8 = some (1, .ifCond .lt 46, 3) := by decide +kernel
theorem i13_11 : zfetch 13 11 = some (1, .aload_n 0, 1) := by decide +kernel
theorem i13_12 : zfetch 13 12 = some (1, .getfield 15, 3) := by decide +kernel
theorem i13_15 : zfetch 13 15 = some (1, .iload_n 2, 1) := by decide +kernel
theorem i13_16 : zfetch 13 16 = some (1, .iaload, 1) := by decide +kernel
theorem i13_17 : zfetch 13 17 = some (1, .invokestatic 87, 3) := by decide +kernel
theorem i13_20 : zfetch 13 20 = some (1, .iload_n 1, 1) := by decide +kernel
theorem i13_21 : zfetch 13 21 = some (1, .if_icmp .lt 33, 3) := by decide +kernel
theorem i13_24 : zfetch 13 24 = some (1, .aload_n 0, 1) := by decide +kernel
theorem i13_25 : zfetch 13 25 = some (1, .sipush 20000, 3) := by decide +kernel
theorem i13_28 : zfetch 13 28 = some (1, .aload_n 0, 1) := by decide +kernel
theorem i13_29 : zfetch 13 29 = some (1, .getfield 15, 3) := by decide +kernel
theorem i13_32 : zfetch 13 32 = some (1, .iload_n 2, 1) := by decide +kernel
theorem i13_33 : zfetch 13 33 = some (1, .iaload, 1) := by decide +kernel
theorem i13_34 : zfetch 13 34 = some (1, .iadd, 1) := by decide +kernel
theorem i13_35 : zfetch 13 35 = some (1, .invokevirtual 60, 3) := by decide +kernel
theorem i13_38 : zfetch 13 38 = some (1, .aload_n 0, 1) := by decide +kernel
theorem i13_39 : zfetch 13 39 = some (1, .dup, 1) := by decide +kernel
theorem i13_40 : zfetch 13 40 = some (1, .getfield 22, 3) := by decide +kernel
theorem i13_43 : zfetch 13 43 = some (1, .iconst 1, 1) := by decide +kernel
theorem i13_44 : zfetch 13 44 = some (1, .isub, 1) := by decide +kernel
theorem i13_45 : zfetch 13 45 = some (1, .putfield 22, 3) := by decide +kernel
theorem i13_48 : zfetch 13 48 = some (1, .iinc 2 (-1), 3) := by decide +kernel
theorem i13_51 : zfetch 13 51 = some (1, .goto (-44), 3) := by decide +kernel
theorem i13_54 : zfetch 13 54 = some (1, .return_, 1) := by decide +kernel
theorem i14_0 : zfetch 14 0 = some (1, .iload_n 0, 1) := by decide +kernel
theorem i14_1 : zfetch 14 1 = some (1, .lookupswitch 101 #[(37, 99), (38, 93), (42, 99), (43, 97), (45, 97), (47, 99), (60, 95), (61, 95), (62, 95), (124, 91)], 91) := by decide +kernel
theorem i14_92 : zfetch 14 92 = some (1, .iconst 1, 1) := by decide +kernel
theorem i14_93 : zfetch 14 93 = some (1, .ireturn, 1) := by decide +kernel
theorem i14_94 : zfetch 14 94 = some (1, .iconst 2, 1) := by decide +kernel
theorem i14_95 : zfetch 14 95 = some (1, .ireturn, 1) := by decide +kernel
theorem i14_96 : zfetch 14 96 = some (1, .iconst 3, 1) := by decide +kernel
theorem i14_97 : zfetch 14 97 = some (1, .ireturn, 1) := by decide +kernel
theorem i14_98 : zfetch 14 98 = some (1, .iconst 4, 1) := by decide +kernel
theorem i14_99 : zfetch 14 99 = some (1, .ireturn, 1) := by decide +kernel
theorem i14_100 : zfetch 14 100 = some (1, .iconst 5, 1) := by decide +kernel
theorem i14_101 : zfetch 14 101 = some (1, .ireturn, 1) := by decide +kernel
theorem i14_102 : zfetch 14 102 = some (1, .iconst 0, 1) := by decide +kernel
theorem i14_103 : zfetch 14 103 = some (1, .ireturn, 1) := by decide +kernel
theorem i15_0 : zfetch 15 0 = some (1, .aload_n 0, 1) := by decide +kernel
theorem i15_1 : zfetch 15 1 = some (1, .getfield 22, 3) := by decide +kernel
theorem i15_4 : zfetch 15 4 = some (1, .bipush 60, 2) := by decide +kernel
theorem i15_6 : zfetch 15 6 = some (1, .if_icmp .ge 23, 3) := by decide +kernel
theorem i15_9 : zfetch 15 9 = some (1, .aload_n 0, 1) := by decide +kernel
theorem i15_10 : zfetch 15 10 = some (1, .getfield 15, 3) := by decide +kernel
theorem i15_13 : zfetch 15 13 = some (1, .aload_n 0, 1) := by decide +kernel
theorem i15_14 : zfetch 15 14 = some (1, .getfield 22, 3) := by decide +kernel
theorem i15_17 : zfetch 15 17 = some (1, .iload_n 1, 1) := by decide +kernel
theorem i15_18 : zfetch 15 18 = some (1, .iastore, 1) := by decide +kernel
theorem i15_19 : zfetch 15 19 = some (1, .aload_n 0, 1) := by decide +kernel
theorem i15_20 : zfetch 15 20 = some (1, .dup, 1) := by decide +kernel
theorem i15_21 : zfetch 15 21 = some (1, .getfield 22, 3) := by decide +kernel
theorem i15_24 : zfetch 15 24 = some (1, .iconst 1, 1) := by decide +kernel
theorem i15_25 : zfetch 15 25 = some (1, .iadd, 1) := by decide +kernel
theorem i15_26 : zfetch 15 26 = some (1, .putfield 22, 3) := by decide +kernel
theorem i15_29 : zfetch 15 29 = some (1, .return_, 1) := by decide +kernel
theorem i16_0 : zfetch 16 0 = some (1, .aload_n 0, 1) := by decide +kernel
theorem i16_1 : zfetch 16 1 = some (1, .getfield 18, 3) := by decide +kernel
theorem i16_4 : zfetch 16 4 = some (1, .bipush 60, 2) := by decide +kernel
theorem i16_6 : zfetch 16 6 = some (1, .if_icmp .ge 23, 3) := by decide +kernel
theorem i16_9 : zfetch 16 9 = some (1, .aload_n 0, 1) := by decide +kernel
theorem i16_10 : zfetch 16 10 = some (1, .getfield 9, 3) := by decide +kernel
theorem i16_13 : zfetch 16 13 = some (1, .aload_n 0, 1) := by decide +kernel
theorem i16_14 : zfetch 16 14 = some (1, .getfield 18, 3) := by decide +kernel
theorem i16_17 : zfetch 16 17 = some (1, .iload_n 1, 1) := by decide +kernel
theorem i16_18 : zfetch 16 18 = some (1, .iastore, 1) := by decide +kernel
theorem i16_19 : zfetch 16 19 = some (1, .aload_n 0, 1) := by decide +kernel
theorem i16_20 : zfetch 16 20 = some (1, .dup, 1) := by decide +kernel
theorem i16_21 : zfetch 16 21 = some (1, .getfield 18, 3) := by decide +kernel
theorem i16_24 : zfetch 16 24 = some (1, .iconst 1, 1) := by decide +kernel
theorem i16_25 : zfetch 16 25 = some (1, .iadd, 1) := by decide +kernel
theorem i16_26 : zfetch 16 26 = some (1, .putfield 18, 3) := by decide +kernel
theorem i16_29 : zfetch 16 29 = some (1, .return_, 1) := by decide +kernel
theorem i17_0 : zfetch 17 0 = some (2, .aload_n 1, 1) := by decide +kernel
theorem i17_1 : zfetch 17 1 = some (2, .getfield 9, 3) := by decide +kernel
theorem i17_4 : zfetch 17 4 = some (2, .iconst 0, 1) := by decide +kernel
theorem i17_5 : zfetch 17 5 = some (2, .aload_n 0, 1) := by decide +kernel
theorem i17_6 : zfetch 17 6 = some (2, .getfield 9, 3) := by decide +kernel
theorem i17_9 : zfetch 17 9 = some (2, .iconst 0, 1) := by decide +kernel
theorem i17_10 : zfetch 17 10 = some (2, .bipush 8, 2) := by decide +kernel
theorem i17_12 : zfetch 17 12 = some (2, .invokestatic 47, 3) := by decide +kernel
theorem i17_15 : zfetch 17 15 = some (2, .aload_n 1, 1) := by decide +kernel
theorem i17_16 : zfetch 17 16 = some (2, .getfield 15, 3) := by decide +kernel
theorem i17_19 : zfetch 17 19 = some (2, .iconst 0, 1) := by decide +kernel
theorem i17_20 : zfetch 17 20 = some (2, .aload_n 0, 1) := by decide +kernel
theorem i17_21 : zfetch 17 21 = some (2, .getfield 15, 3) := by decide +kernel
theorem i17_24 : zfetch 17 24 = some (2, .iconst 0, 1) := by decide +kernel
theorem i17_25 : zfetch 17 25 = some (2, .bipush 8, 2) := by decide +kernel
theorem i17_27 : zfetch 17 27 = some (2, .invokestatic 47, 3) := by decide +kernel
theorem i17_30 : zfetch 17 30 = some (2, .aload_n 1, 1) := by decide +kernel
theorem i17_31 : zfetch 17 31 = some (2, .getfield 18, 3) := by decide +kernel
theorem i17_34 : zfetch 17 34 = some (2, .iconst 0, 1) := by decide +kernel
theorem i17_35 : zfetch 17 35 = some (2, .aload_n 0, 1) := by decide +kernel
theorem i17_36 : zfetch 17 36 = some (2, .getfield 18, 3) := by decide +kernel
theorem i17_39 : zfetch 17 39 = some (2, .iconst 0, 1) := by decide +kernel
theorem i17_40 : zfetch 17 40 = some (2, .bipush 8, 2) := by decide +kernel
theorem i17_42 : zfetch 17 42 = some (2, .invokestatic 47, 3) := by decide +kernel
theorem i17_45 : zfetch 17 45 = some (2, .aload_n 1, 1) := by decide +kernel
theorem i17_46 : zfetch 17 46 = some (2, .getfield 21, 3) := by decide +kernel
theorem i17_49 : zfetch 17 49 = some (2, .iconst 0, 1) := by decide +kernel
theorem i17_50 : zfetch 17 50 = some (2, .aload_n 0, 1) := by decide +kernel
theorem i17_51 : zfetch 17 51 = some (2, .getfield 21, 3) := by decide +kernel
theorem i17_54 : zfetch 17 54 = some (2, .iconst 0, 1) := by decide +kernel
theorem i17_55 : zfetch 17 55 = some (2, .bipush 8, 2) := by decide +kernel
theorem i17_57 : zfetch 17 57 = some (2, .invokestatic 47, 3) := by decide +kernel
theorem i17_60 : zfetch 17 60 = some (2, .aload_n 1, 1) := by decide +kernel
theorem i17_61 : zfetch 17 61 = some (2, .getfield 24, 3) := by decide +kernel
theorem i17_64 : zfetch 17 64 = some (2, .iconst 0, 1) := by decide +kernel
theorem i17_65 : zfetch 17 65 = some (2, .aload_n 0, 1) := by decide +kernel
theorem i17_66 : zfetch 17 66 = some (2, .getfield 24, 3) := by decide +kernel
theorem i17_69 : zfetch 17 69 = some (2, .iconst 0, 1) := by decide +kernel
theorem i17_70 : zfetch 17 70 = some (2, .bipush 8, 2) := by decide +kernel
theorem i17_72 : zfetch 17 72 = some (2, .invokestatic 47, 3) := by decide +kernel
theorem i17_75 : zfetch 17 75 = some (2, .aload_n 1, 1) := by decide +kernel
theorem i17_76 : zfetch 17 76 = some (2, .getfield 27, 3) := by decide +kernel
theorem i17_79 : zfetch 17 79 = some (2, .iconst 0, 1) := by decide +kernel
theorem i17_80 : zfetch 17 80 = some (2, .aload_n 0, 1) := by decide +kernel
theorem i17_81 : zfetch 17 81 = some (2, .getfield 27, 3) := by decide +kernel
theorem i17_84 : zfetch 17 84 = some (2, .iconst 0, 1) := by decide +kernel
theorem i17_85 : zfetch 17 85 = some (2, .bipush 8, 2) := by decide +kernel
theorem i17_87 : zfetch 17 87 = some (2, .invokestatic 47, 3) := by decide +kernel
theorem i17_90 : zfetch 17 90 = some (2, .aload_n 1, 1) := by decide +kernel
theorem i17_91 : zfetch 17 91 = some (2, .getfield 30, 3) := by decide +kernel
theorem i17_94 : zfetch 17 94 = some (2, .iconst 0, 1) := by decide +kernel
theorem i17_95 : zfetch 17 95 = some (2, .aload_n 0, 1) := by decide +kernel
theorem i17_96 : zfetch 17 96 = some (2, .getfield 30, 3) := by decide +kernel
theorem i17_99 : zfetch 17 99 = some (2, .iconst 0, 1) := by decide +kernel
theorem i17_100 : zfetch 17 100 = some (2, .bipush 6, 2) := by decide +kernel
theorem i17_102 : zfetch 17 102 = some (2, .invokestatic 47, 3) := by decide +kernel
theorem i17_105 : zfetch 17 105 = some (2, .aload_n 0, 1) := by decide +kernel
theorem i17_106 : zfetch 17 106 = some (2, .aload_n 1, 1) := by decide +kernel
theorem i17_107 : zfetch 17 107 = some (2, .getfield 53, 3) := by decide +kernel
theorem i17_110 : zfetch 17 110 = some (2, .putfield 53, 3) := by decide +kernel
theorem i17_113 : zfetch 17 113 = some (2, .aload_n 0, 1) := by decide +kernel
theorem i17_114 : zfetch 17 114 = some (2, .aload_n 1, 1) := by decide +kernel
theorem i17_115 : zfetch 17 115 = some (2, .getfield 56, 3) := by decide +kernel
theorem i17_118 : zfetch 17 118 = some (2, .putfield 56, 3) := by decide +kernel
theorem i17_121 : zfetch 17 121 = some (2, .aload_n 0, 1) := by decide +kernel
theorem i17_122 : zfetch 17 122 = some (2, .aload_n 1, 1) := by decide +kernel
theorem i17_123 : zfetch 17 123 = some (2, .getfield 59, 3) := by decide +kernel
theorem i17_126 : zfetch 17 126 = some (2, .putfield 59, 3) := by decide +kernel
theorem i17_129 : zfetch 17 129 = some (2, .aload_n 0, 1) := by decide +kernel
theorem i17_130 : zfetch 17 130 = some (2, .aload_n 1, 1) := by decide +kernel
theorem i17_131 : zfetch 17 131 = some (2, .getfield 33, 3) := by decide +kernel
theorem i17_134 : zfetch 17 134 = some (2, .putfield 33, 3) := by decide +kernel
theorem i17_137 : zfetch 17 137 = some (2, .return_, 1) := by decide +kernel
theorem i18_0 : zfetch 18 0 = some (2, .aload_n 0, 1) := by decide +kernel
theorem i18_1 : zfetch 18 1 = some (2, .getfield 53, 3) := by decide +kernel
theorem i18_4 : zfetch 18 4 = some (2, .istore 5, 2) := by decide +kernel
theorem i18_6 : zfetch 18 6 = some (2, .aload_n 0, 1) := by decide +kernel
theorem i18_7 : zfetch 18 7 = some (2, .getfield 9, 3) := by decide +kernel
theorem i18_10 : zfetch 18 10 = some (2, .iload 5, 2) := by decide +kernel
theorem i18_12 : zfetch 18 12 = some (2, .iload_n 1, 1) := by decide +kernel
theorem i18_13 : zfetch 18 13 = some (2, .bipush 10, 2) := by decide +kernel
theorem i18_15 : zfetch 18 15 = some (2, .idiv, 1) := by decide +kernel
theorem i18_16 : zfetch 18 16 = some (2, .iastore, 1) := by decide +kernel
theorem i18_17 : zfetch 18 17 = some (2, .aload_n 0, 1) := by decide +kernel
theorem i18_18 : zfetch 18 18 = some (2, .getfield 15, 3) := by decide +kernel
theorem i18_21 : zfetch 18 21 = some (2, .iload 5, 2) := by decide +kernel
theorem i18_23 : zfetch 18 23 = some (2, .iload_n 1, 1) := by decide +kernel
theorem i18_24 : zfetch 18 24 = some (2, .bipush 10, 2) := by decide +kernel
theorem i18_26 : zfetch 18 26 = some (2, .irem, 1) := by decide +kernel
theorem i18_27 : zfetch 18 27 = some (2, .iastore, 1) := by decide +kernel
theorem i18_28 : zfetch 18 28 = some (2, .aload_n 0, 1) := by decide +kernel
theorem i18_29 : zfetch 18 29 = some (2, .getfield 21, 3) := by decide +kernel
theorem i18_32 : zfetch 18 32 = some (2, .iload 5, 2) := by decide +kernel
theorem i18_34 : zfetch 18 34 = some (2, .iload_n 3, 1) := by decide +kernel
theorem i18_35 : zfetch 18 35 = some (2, .iastore, 1) := by decide +kernel
theorem i18_36 : zfetch 18 36 = some (2, .aload_n 0, 1) := by decide +kernel
theorem i18_37 : zfetch 18 37 = some (2, .getfield 18, 3) := by decide +kernel
theorem i18_40 : zfetch 18 40 = some (2, .iload 5, 2) := by decide +kernel
theorem i18_42 : zfetch 18 42 = some (2, .iload_n 2, 1) := by decide +kernel
theorem i18_43 : zfetch 18 43 = some (2, .iastore, 1) := by decide +kernel
theorem i18_44 : zfetch 18 44 = some (2, .aload_n 0, 1) := by decide +kernel
theorem i18_45 : zfetch 18 45 = some (2, .getfield 27, 3) := by decide +kernel
theorem i18_48 : zfetch 18 48 = some (2, .iload 5, 2) := by decide +kernel
theorem i18_50 : zfetch 18 50 = some (2, .iload_n 2, 1) := by decide +kernel
theorem i18_51 : zfetch 18 51 = some (2, .ifCond .lt 8, 3) := by decide +kernel
theorem i18_54 : zfetch 18 54 = some (2, .iload 4, 2) := by decide +kernel
theorem i18_56 : zfetch 18 56 = some (2, .goto 4, 3) := by decide +kernel
theorem i18_59 : zfetch 18 59 = some (2, .iconst 0, 1) := by decide +kernel
theorem i18_60 : zfetch 18 60 = some (2, .iastore, 1) := by decide +kernel
theorem i18_61 : zfetch 18 61 = some (2, .aload_n 0, 1) := by decide +kernel
theorem i18_62 : zfetch 18 62 = some (2, .getfield 24, 3) := by decide +kernel
theorem i18_65 : zfetch 18 65 = some (2, .iload 5, 2) := by decide +kernel
theorem i18_67 : zfetch 18 67 = some (2, .aload_n 0, 1) := by decide +kernel
theorem i18_68 : zfetch 18 68 = some (2, .iload 5, 2) := by decide +kernel
theorem i18_70 : zfetch 18 70 = some (2, .invokevirtual 62, 3) := by decide +kernel
theorem i18_73 : zfetch 18 73 = some (2, .iastore, 1) := by decide +kernel
theorem i18_74 : zfetch 18 74 = some (2, .aload_n 0, 1) := by decide +kernel
theorem i18_75 : zfetch 18 75 = some (2, .dup, 1) := by decide +kernel
theorem i18_76 : zfetch 18 76 = some (2, .getfield 53, 3) := by decide +kernel
theorem i18_79 : zfetch 18 79 = some (2, .iconst 1, 1) := by decide +kernel
theorem i18_80 : zfetch 18 80 = some (2, .iadd, 1) := by decide +kernel
theorem i18_81 : zfetch 18 81 = some (2, .putfield 53, 3) := by decide +kernel
theorem i18_84 : zfetch 18 84 = some (2, .iload 5, 2) := by decide +kernel
theorem i18_86 : zfetch 18 86 = some (2, .ireturn, 1) := by decide +kernel
theorem i19_0 : zfetch 19 0 = some (2, .aload_n 0, 1) := by decide +kernel
theorem i19_1 : zfetch 19 1 = some (2, .getfield 18, 3) := by decide +kernel
theorem i19_4 : zfetch 19 4 = some (2, .iload_n 1, 1) := by decide +kernel
theorem i19_5 : zfetch 19 5 = some (2, .iaload, 1) := by decide +kernel
theorem i19_6 : zfetch 19 6 = some (2, .ifCond .lt 7, 3) := by decide +kernel
theorem i19_9 : zfetch 19 9 = some (2, .iconst 1, 1) := by decide +kernel
theorem i19_10 : zfetch 19 10 = some (2, .goto 4, 3) := by decide +kernel
theorem i19_13 : zfetch 19 13 = some (2, .iconst 0, 1) := by decide +kernel
theorem i19_14 : zfetch 19 14 = some (2, .ireturn, 1) := by decide +kernel
theorem i20_0 : zfetch 20 0 = some (2, .iconst 0, 1) := by decide +kernel
theorem i20_1 : zfetch 20 1 = some (2, .istore_n 1, 1) := by decide +kernel
theorem i20_2 : zfetch 20 2 = some (2, .iconst 0, 1) := by decide +kernel
theorem i20_3 : zfetch 20 3 = some (2, .istore_n 2, 1) := by decide +kernel
theorem i20_4 : zfetch 20 4 = some (2, .iload_n 2, 1) := by decide +kernel
theorem i20_5 : zfetch 20 5 = some (2, .aload_n 0, 1) := by decide +kernel
theorem i20_6 : zfetch 20 6 = some (2, .getfield 53, 3) := by decide +kernel
theorem i20_9 : zfetch 20 9 = some (2, .if_icmp .ge 23, 3) := by decide +kernel
theorem i20_12 : zfetch 20 12 = some (2, .aload_n 0, 1) := by decide +kernel
theorem i20_13 : zfetch 20 13 = some (2, .iload_n 2, 1) := by decide +kernel
theorem i20_14 : zfetch 20 14 = some (2, .invokevirtual 66, 3) := by decide +kernel
theorem i20_17 : zfetch 20 17 = some (2, .ifCond .eq 9, 3) := by decide +kernel
theorem i20_20 : zfetch 20 20 = some (2, .iload_n 1, 1) := by decide +kernel
theorem i20_21 : zfetch 20 21 = some (2, .iconst 1, 1) := by decide +kernel
theorem i20_22 : zfetch 20 22 = some (2, .iload_n 2, 1) := by decide +kernel
theorem i20_23 : zfetch 20 23 = some (2, .ishl, 1) := by decide +kernel
theorem i20_24 : zfetch 20 24 = some (2, .ior, 1) := by decide +kernel
theorem i20_25 : zfetch 20 25 = some (2, .istore_n 1, 1) := by decide +kernel
theorem i20_26 : zfetch 20 26 = some (2, .iinc 2 1, 3) := by decide +kernel
theorem i20_29 : zfetch 20 29 = some (2, .goto (-25), 3) := by decide +kernel
theorem i20_32 : zfetch 20 32 = some (2, .iload_n 1, 1) := by decide +kernel
theorem i20_33 : zfetch 20 33 = some (2, .ireturn, 1) := by decide +kernel
theorem i21_0 : zfetch 21 0 = some (2, .aload_n 0, 1) := by decide +kernel
theorem i21_1 : zfetch 21 1 = some (2, .getfield 18, 3) := by decide +kernel
theorem i21_4 : zfetch 21 4 = some (2, .iload_n 1, 1) := by decide +kernel
theorem i21_5 : zfetch 21 5 = some (2, .iconst (-1), 1) := by decide +kernel
theorem i21_6 : zfetch 21 6 = some (2, .iastore, 1) := by decide +kernel
theorem i21_7 : zfetch 21 7 = some (2, .aload_n 0, 1) := by decide +kernel
theorem i21_8 : zfetch 21 8 = some (2, .getfield 24, 3) := by decide +kernel
theorem i21_11 : zfetch 21 11 = some (2, .iload_n 1, 1) := by decide +kernel
theorem i21_12 : zfetch 21 12 = some (2, .iconst 0, 1) := by decide +kernel
theorem i21_13 : zfetch 21 13 = some (2, .iastore, 1) := by decide +kernel
theorem i21_14 : zfetch 21 14 = some (2, .aload_n 0, 1) := by decide +kernel
theorem i21_15 : zfetch 21 15 = some (2, .getfield 27, 3) := by decide +kernel
theorem i21_18 : zfetch 21 18 = some (2, .iload_n 1, 1) := by decide +kernel
theorem i21_19 : zfetch 21 19 = some (2, .iconst 0, 1) := by decide +kernel
theorem i21_20 : zfetch 21 20 = some (2, .iastore, 1) := by decide +kernel
theorem i21_21 : zfetch 21 21 = some (2, .return_, 1) := by decide +kernel
theorem i22_0 : zfetch 22 0 = some (2, .aload_n 0, 1) := by decide +kernel
theorem i22_1 : zfetch 22 1 = some (2, .getfield 18, 3) := by decide +kernel
theorem i22_4 : zfetch 22 4 = some (2, .iload_n 1, 1) := by decide +kernel
theorem i22_5 : zfetch 22 5 = some (2, .iaload, 1) := by decide +kernel
theorem i22_6 : zfetch 22 6 = some (2, .istore_n 2, 1) := by decide +kernel
theorem i22_7 : zfetch 22 7 = some (2, .iload_n 2, 1) := by decide +kernel
theorem i22_8 : zfetch 22 8 = some (2, .ifCond .lt 22, 3) := by decide +kernel
theorem i22_11 : zfetch 22 11 = some (2, .aload_n 0, 1) := by decide +kernel
theorem i22_12 : zfetch 22 12 = some (2, .getfield 21, 3) := by decide +kernel
theorem i22_15 : zfetch 22 15 = some (2, .iload_n 1, 1) := by decide +kernel
theorem i22_16 : zfetch 22 16 = some (2, .iaload, 1) := by decide +kernel
theorem i22_17 : zfetch 22 17 = some (2, .aload_n 0, 1) := by decide +kernel
theorem i22_18 : zfetch 22 18 = some (2, .getfield 21, 3) := by decide +kernel
theorem i22_21 : zfetch 22 21 = some (2, .iload_n 2, 1) := by decide +kernel
theorem i22_22 : zfetch 22 22 = some (2, .iaload, 1) := by decide +kernel
theorem i22_23 : zfetch 22 23 = some (2, .isub, 1) := by decide +kernel
theorem i22_24 : zfetch 22 24 = some (2, .invokestatic 70, 3) := by decide +kernel
theorem i22_27 : zfetch 22 27 = some (2, .goto 4, 3) := by decide +kernel
theorem i22_30 : zfetch 22 30 = some (2, .iconst 0, 1) := by decide +kernel
theorem i22_31 : zfetch 22 31 = some (2, .ireturn, 1) := by decide +kernel
theorem i23_0 : zfetch 23 0 = some (2, .iconst 0, 1) := by decide +kernel
theorem i23_1 : zfetch 23 1 = some (2, .istore_n 2, 1) := by decide +kernel
theorem i23_2 : zfetch 23 2 = some (2, .iconst 0, 1) := by decide +kernel
theorem i23_3 : zfetch 23 3 = some (2, .istore_n 3, 1) := by decide +kernel
theorem i23_4 : zfetch 23 4 = some (2, .iload_n 3, 1) := by decide +kernel
theorem i23_5 : zfetch 23 5 = some (2, .aload_n 0, 1) := by decide +kernel
theorem i23_6 : zfetch 23 6 = some (2, .getfield 53, 3) := by decide +kernel
theorem i23_9 : zfetch 23 9 = some (2, .if_icmp .ge 15, 3) := by decide +kernel
theorem i23_12 : zfetch 23 12 = some (2, .iload_n 2, 1) := by decide +kernel
theorem i23_13 : zfetch 23 13 = some (2, .aload_n 1, 1) := by decide +kernel
theorem i23_14 : zfetch 23 14 = some (2, .iload_n 3, 1) := by decide +kernel
theorem i23_15 : zfetch 23 15 = some (2, .iaload, 1) := by decide +kernel
theorem i23_16 : zfetch 23 16 = some (2, .iadd, 1) := by decide +kernel
theorem i23_17 : zfetch 23 17 = some (2, .istore_n 2, 1) := by decide +kernel
theorem i23_18 : zfetch 23 18 = some (2, .iinc 3 1, 3) := by decide +kernel
theorem i23_21 : zfetch 23 21 = some (2, .goto (-17), 3) := by decide +kernel
theorem i23_24 : zfetch 23 24 = some (2, .iload_n 2, 1) := by decide +kernel
theorem i23_25 : zfetch 23 25 = some (2, .ireturn, 1) := by decide +kernel
theorem i24_0 : zfetch 24 0 = some (2, .iconst 0, 1) := by decide +kernel
theorem i24_1 : zfetch 24 1 = some (2, .istore_n 2, 1) := by decide +kernel
theorem i24_2 : zfetch 24 2 = some (2, .iload_n 1, 1) := by decide +kernel
theorem i24_3 : zfetch 24 3 = some (2, .istore_n 3, 1) := by decide +kernel
theorem i24_4 : zfetch 24 4 = some (2, .iconst 0, 1) := by decide +kernel
theorem i24_5 : zfetch 24 5 = some (2, .istore 4, 2) := by decide +kernel
theorem i24_7 : zfetch 24 7 = some (2, .iload 4, 2) := by decide +kernel
theorem i24_9 : zfetch 24 9 = some (2, .bipush 8, 2) := by decide +kernel
theorem i24_11 : zfetch 24 11 = some (2, .if_icmp .ge 26, 3) := by decide +kernel
theorem i24_14 : zfetch 24 14 = some (2, .iload_n 3, 1) := by decide +kernel
theorem i24_15 : zfetch 24 15 = some (2, .ifCond .lt 22, 3) := by decide +kernel
theorem i24_18 : zfetch 24 18 = some (2, .iload_n 2, 1) := by decide +kernel
theorem i24_19 : zfetch 24 19 = some (2, .iconst 1, 1) := by decide +kernel
theorem i24_20 : zfetch 24 20 = some (2, .iload_n 3, 1) := by decide +kernel
theorem i24_21 : zfetch 24 21 = some (2, .ishl, 1) := by decide +kernel
theorem i24_22 : zfetch 24 22 = some (2, .ior, 1) := by decide +kernel
theorem i24_23 : zfetch 24 23 = some (2, .istore_n 2, 1) := by decide +kernel
theorem i24_24 : zfetch 24 24 = some (2, .aload_n 0, 1) := by decide +kernel
theorem i24_25 : zfetch 24 25 = some (2, .getfield 18, 3) := by decide +kernel
theorem i24_28 : zfetch 24 28 = some (2, .iload_n 3, 1) := by decide +kernel
theorem i24_29 : zfetch 24 29 = some (2, .iaload, 1) := by decide +kernel
theorem i24_30 : zfetch 24 30 = some (2, .istore_n 3, 1) := by decide +kernel
theorem i24_31 : zfetch 24 31 = some (2, .iinc 4 1, 3) := by decide +kernel
theorem i24_34 : zfetch 24 34 = some (2, .goto (-27), 3) := by decide +kernel
theorem i24_37 : zfetch 24 37 = some (2, .iload_n 2, 1) := by decide +kernel
theorem i24_38 : zfetch 24 38 = some (2, .ireturn, 1) := by decide +kernel
theorem i25_0 : zfetch 25 0 = some (2, .iconst 0, 1) := by decide +kernel
theorem i25_1 : zfetch 25 1 = some (2, .istore_n 3, 1) := by decide +kernel
theorem i25_2 : zfetch 25 2 = some (2, .iload_n 1, 1) := by decide +kernel
theorem i25_3 : zfetch 25 3 = some (2, .istore 4, 2) := by decide +kernel
theorem i25_5 : zfetch 25 5 = some (2, .iconst 0, 1) := by decide +kernel
theorem i25_6 : zfetch 25 6 = some (2, .istore 5, 2) := by decide +kernel
theorem i25_8 : zfetch 25 8 = some (2, .iload 5, 2) := by decide +kernel
theorem i25_10 : zfetch 25 10 = some (2, .bipush 8, 2) := by decide +kernel
theorem i25_12 : zfetch 25 12 = some (2, .if_icmp .ge 42, 3) := by decide +kernel
theorem i25_15 : zfetch 25 15 = some (2, .iload 4, 2) := by decide +kernel
theorem i25_17 : zfetch 25 17 = some (2, .ifCond .lt 37, 3) := by decide +kernel
theorem i25_20 : zfetch 25 20 = some (2, .iload_n 2, 1) := by decide +kernel
theorem i25_21 : zfetch 25 21 = some (2, .iload 4, 2) := by decide +kernel
theorem i25_23 : zfetch 25 23 = some (2, .ishr, 1) := by decide +kernel
theorem i25_24 : zfetch 25 24 = some (2, .iconst 1, 1) := by decide +kernel
theorem i25_25 : zfetch 25 25 = some (2, .iand, 1) := by decide +kernel
theorem i25_26 : zfetch 25 26 = some (2, .ifCond .ne 28, 3) := by decide +kernel
theorem i25_29 : zfetch 25 29 = some (2, .iload_n 3, 1) := by decide +kernel
theorem i25_30 : zfetch 25 30 = some (2, .aload_n 0, 1) := by decide +kernel
theorem i25_31 : zfetch 25 31 = some (2, .getfield 24, 3) := by decide +kernel
theorem i25_34 : zfetch 25 34 = some (2, .iload 4, 2) := by decide +kernel
theorem i25_36 : zfetch 25 36 = some (2, .iaload, 1) := by decide +kernel
theorem i25_37 : zfetch 25 37 = some (2, .iadd, 1) := by decide +kernel
theorem i25_38 : zfetch 25 38 = some (2, .istore_n 3, 1) := by decide +kernel
theorem i25_39 : zfetch 25 39 = some (2, .aload_n 0, 1) := by decide +kernel
theorem i25_40 : zfetch 25 40 = some (2, .getfield 18, 3) := by decide +kernel
theorem i25_43 : zfetch 25 43 = some (2, .iload 4, 2) := by decide +kernel
theorem i25_45 : zfetch 25 45 = some (2, .iaload, 1) := by decide +kernel
theorem i25_46 : zfetch 25 46 = some (2, .istore 4, 2) := by decide +kernel
theorem i25_48 : zfetch 25 48 = some (2, .iinc 5 1, 3) := by decide +kernel
theorem i25_51 : zfetch 25 51 = some (2, .goto (-43), 3) := by decide +kernel
theorem i25_54 : zfetch 25 54 = some (2, .iload_n 3, 1) := by decide +kernel
theorem i25_55 : zfetch 25 55 = some (2, .ireturn, 1) := by decide +kernel
theorem i26_0 : zfetch 26 0 = some (2, .aload_n 0, 1) := by decide +kernel
theorem i26_1 : zfetch 26 1 = some (2, .getfield 18, 3) := by decide +kernel
theorem i26_4 : zfetch 26 4 = some (2, .iload_n 1, 1) := by decide +kernel
theorem i26_5 : zfetch 26 5 = some (2, .iaload, 1) := by decide +kernel
theorem i26_6 : zfetch 26 6 = some (2, .istore_n 2, 1) := by decide +kernel
theorem i26_7 : zfetch 26 7 = some (2, .iload_n 2, 1) := by decide +kernel
theorem i26_8 : zfetch 26 8 = some (2, .ifCond .lt 21, 3) := by decide +kernel
theorem i26_11 : zfetch 26 11 = some (2, .aload_n 0, 1) := by decide +kernel
theorem i26_12 : zfetch 26 12 = some (2, .getfield 21, 3) := by decide +kernel
theorem i26_15 : zfetch 26 15 = some (2, .iload_n 1, 1) := by decide +kernel
theorem i26_16 : zfetch 26 16 = some (2, .iaload, 1) := by decide +kernel
theorem i26_17 : zfetch 26 17 = some (2, .aload_n 0, 1) := by decide +kernel
theorem i26_18 : zfetch 26 18 = some (2, .getfield 21, 3) := by decide +kernel
theorem i26_21 : zfetch 26 21 = some (2, .iload_n 2, 1) := by decide +kernel
theorem i26_22 : zfetch 26 22 = some (2, .iaload, 1) := by decide +kernel
theorem i26_23 : zfetch 26 23 = some (2, .invokestatic 75, 3) := by decide +kernel
theorem i26_26 : zfetch 26 26 = some (2, .goto 9, 3) := by decide +kernel
theorem i26_29 : zfetch 26 29 = some (2, .aload_n 0, 1) := by decide +kernel
theorem i26_30 : zfetch 26 30 = some (2, .getfield 21, 3) := by decide +kernel
theorem i26_33 : zfetch 26 33 = some (2, .iload_n 1, 1) := by decide +kernel
theorem i26_34 : zfetch 26 34 = some (2, .iaload, 1) := by decide +kernel
theorem i26_35 : zfetch 26 35 = some (2, .ireturn, 1) := by decide +kernel
theorem i27_0 : zfetch 27 0 = some (2, .aload_n 0, 1) := by decide +kernel
theorem i27_1 : zfetch 27 1 = some (2, .iload_n 1, 1) := by decide +kernel
theorem i27_2 : zfetch 27 2 = some (2, .invokevirtual 79, 3) := by decide +kernel
theorem i27_5 : zfetch 27 5 = some (2, .aload_n 0, 1) := by decide +kernel
theorem i27_6 : zfetch 27 6 = some (2, .iload_n 1, 1) := by decide +kernel
theorem i27_7 : zfetch 27 7 = some (2, .invokevirtual 62, 3) := by decide +kernel
theorem i27_10 : zfetch 27 10 = some (2, .iadd, 1) := by decide +kernel
theorem i27_11 : zfetch 27 11 = some (2, .ireturn, 1) := by decide +kernel
theorem i28_0 : zfetch 28 0 = some (2, .iconst 0, 1) := by decide +kernel
theorem i28_1 : zfetch 28 1 = some (2, .istore_n 2, 1) := by decide +kernel
theorem i28_2 : zfetch 28 2 = some (2, .iconst 0, 1) := by decide +kernel
theorem i28_3 : zfetch 28 3 = some (2, .istore_n 3, 1) := by decide +kernel
theorem i28_4 : zfetch 28 4 = some (2, .iload_n 3, 1) := by decide +kernel
theorem i28_5 : zfetch 28 5 = some (2, .aload_n 0, 1) := by decide +kernel
theorem i28_6 : zfetch 28 6 = some (2, .getfield 53, 3) := by decide +kernel
theorem i28_9 : zfetch 28 9 = some (2, .if_icmp .ge 41, 3) := by decide +kernel
theorem i28_12 : zfetch 28 12 = some (2, .aload_n 0, 1) := by decide +kernel
theorem i28_13 : zfetch 28 13 = some (2, .iload_n 3, 1) := by decide +kernel
theorem i28_14 : zfetch 28 14 = some (2, .invokevirtual 66, 3) := by decide +kernel
theorem i28_17 : zfetch 28 17 = some (2, .ifCond .eq 27, 3) := by decide +kernel
theorem i28_20 : zfetch 28 20 = some (2, .aload_n 0, 1) := by decide +kernel
theorem i28_21 : zfetch 28 21 = some (2, .iload_n 3, 1) := by decide +kernel
theorem i28_22 : zfetch 28 22 = some (2, .invokevirtual 79, 3) := by decide +kernel
theorem i28_25 : zfetch 28 25 = some (2, .iload_n 1, 1) := by decide +kernel
theorem i28_26 : zfetch 28 26 = some (2, .if_icmp .gt 18, 3) := by decide +kernel
theorem i28_29 : zfetch 28 29 = some (2, .iload_n 1, 1) := by decide +kernel
theorem i28_30 : zfetch 28 30 = some (2, .aload_n 0, 1) := by decide +kernel
theorem i28_31 : zfetch 28 31 = some (2, .iload_n 3, 1) := by decide +kernel
theorem i28_32 : zfetch 28 32 = some (2, .invokevirtual 82, 3) := by decide +kernel
theorem i28_35 : zfetch 28 35 = some (2, .if_icmp .gt 9, 3) := by decide +kernel
theorem i28_38 : zfetch 28 38 = some (2, .iload_n 2, 1) := by decide +kernel
theorem i28_39 : zfetch 28 39 = some (2, .iconst 1, 1) := by decide +kernel
theorem i28_40 : zfetch 28 40 = some (2, .iload_n 3, 1) := by decide +kernel
theorem i28_41 : zfetch 28 41 = some (2, .ishl, 1) := by decide +kernel
theorem i28_42 : zfetch 28 42 = some (2, .ior, 1) := by decide +kernel
theorem i28_43 : zfetch 28 43 = some (2, .istore_n 2, 1) := by decide +kernel
theorem i28_44 : zfetch 28 44 = some (2, .iinc 3 1, 3) := by decide +kernel
theorem i28_47 : zfetch 28 47 = some (2, .goto (-43), 3) := by decide +kernel
theorem i28_50 : zfetch 28 50 = some (2, .iload_n 2, 1) := by decide +kernel
theorem i28_51 : zfetch 28 51 = some (2, .ireturn, 1) := by decide +kernel
theorem i29_0 : zfetch 29 0 = some (2, .aload_n 0, 1) := by decide +kernel
theorem i29_1 : zfetch 29 1 = some (2, .iload_n 1, 1) := by decide +kernel
theorem i29_2 : zfetch 29 2 = some (2, .invokevirtual 66, 3) := by decide +kernel
theorem i29_5 : zfetch 29 5 = some (2, .ifCond .eq 11, 3) := by decide +kernel
theorem i29_8 : zfetch 29 8 = some (2, .aload_n 0, 1) := by decide +kernel
theorem i29_9 : zfetch 29 9 = some (2, .iload_n 2, 1) := by decide +kernel
theorem i29_10 : zfetch 29 10 = some (2, .invokevirtual 66, 3) := by decide +kernel
theorem i29_13 : zfetch 29 13 = some (2, .ifCond .ne 5, 3) := by decide +kernel
theorem i29_16 : zfetch 29 16 = some (2, .iconst 0, 1) := by decide +kernel
theorem i29_17 : zfetch 29 17 = some (2, .ireturn, 1) := by decide +kernel
theorem i29_18 : zfetch 29 18 = some (2, .aload_n 0, 1) := by decide +kernel
theorem i29_19 : zfetch 29 19 = some (2, .iload_n 1, 1) := by decide +kernel
theorem i29_20 : zfetch 29 20 = some (2, .invokevirtual 79, 3) := by decide +kernel
theorem i29_23 : zfetch 29 23 = some (2, .aload_n 0, 1) := by decide +kernel
theorem i29_24 : zfetch 29 24 = some (2, .iload_n 2, 1) := by decide +kernel
theorem i29_25 : zfetch 29 25 = some (2, .invokevirtual 79, 3) := by decide +kernel
theorem i29_28 : zfetch 29 28 = some (2, .if_icmp .ge 33, 3) := by decide +kernel
theorem i29_31 : zfetch 29 31 = some (2, .aload_n 0, 1) := by decide +kernel
theorem i29_32 : zfetch 29 32 = some (2, .iload_n 2, 1) := by decide +kernel
theorem i29_33 : zfetch 29 33 = some (2, .invokevirtual 79, 3) := by decide +kernel
theorem i29_36 : zfetch 29 36 = some (2, .aload_n 0, 1) := by decide +kernel
theorem i29_37 : zfetch 29 37 = some (2, .iload_n 1, 1) := by decide +kernel
theorem i29_38 : zfetch 29 38 = some (2, .invokevirtual 82, 3) := by decide +kernel
theorem i29_41 : zfetch 29 41 = some (2, .if_icmp .ge 20, 3) := by decide +kernel
theorem i29_44 : zfetch 29 44 = some (2, .aload_n 0, 1) := by decide +kernel
theorem i29_45 : zfetch 29 45 = some (2, .iload_n 1, 1) := by decide +kernel
theorem i29_46 : zfetch 29 46 = some (2, .invokevirtual 82, 3) := by decide +kernel
theorem i29_49 : zfetch 29 49 = some (2, .aload_n 0, 1) := by decide +kernel
theorem i29_50 : zfetch 29 50 = some (2, .iload_n 2, 1) := by decide +kernel
theorem i29_51 : zfetch 29 51 = some (2, .invokevirtual 82, 3) := by decide +kernel
theorem i29_54 : zfetch 29 54 = some (2, .if_icmp .ge 7, 3) := by decide +kernel
theorem i29_57 : zfetch 29 57 = some (2, .iconst 1, 1) := by decide +kernel
theorem i29_58 : zfetch 29 58 = some (2, .goto 4, 3) := by decide +kernel
theorem i29_61 : zfetch 29 61 = some (2, .iconst 0, 1) := by decide +kernel
theorem i29_62 : zfetch 29 62 = some (2, .istore_n 3, 1) := by decide +kernel
theorem i29_63 : zfetch 29 63 = some (2, .aload_n 0, 1) := by decide +kernel
theorem i29_64 : zfetch 29 64 = some (2, .iload_n 2, 1) := by decide +kernel
theorem i29_65 : zfetch 29 65 = some (2, .invokevirtual 79, 3) := by decide +kernel
theorem i29_68 : zfetch 29 68 = some (2, .aload_n 0, 1) := by decide +kernel
theorem i29_69 : zfetch 29 69 = some (2, .iload_n 1, 1) := by decide +kernel
theorem i29_70 : zfetch 29 70 = some (2, .invokevirtual 79, 3) := by decide +kernel
theorem i29_73 : zfetch 29 73 = some (2, .if_icmp .ge 33, 3) := by decide +kernel
theorem i29_76 : zfetch 29 76 = some (2, .aload_n 0, 1) := by decide +kernel
theorem i29_77 : zfetch 29 77 = some (2, .iload_n 1, 1) := by decide +kernel
theorem i29_78 : zfetch 29 78 = some (2, .invokevirtual 79, 3) := by decide +kernel
theorem i29_81 : zfetch 29 81 = some (2, .aload_n 0, 1) := by decide +kernel
theorem i29_82 : zfetch 29 82 = some (2, .iload_n 2, 1) := by decide +kernel
theorem i29_83 : zfetch 29 83 = some (2, .invokevirtual 82, 3) := by decide +kernel
theorem i29_86 : zfetch 29 86 = some (2, .if_icmp .ge 20, 3) := by decide +kernel
theorem i29_89 : zfetch 29 89 = some (2, .aload_n 0, 1) := by decide +kernel
theorem i29_90 : zfetch 29 90 = some (2, .iload_n 2, 1) := by decide +kernel
theorem i29_91 : zfetch 29 91 = some (2, .invokevirtual 82, 3) := by decide +kernel
theorem i29_94 : zfetch 29 94 = some (2, .aload_n 0, 1) := by decide +kernel
theorem i29_95 : zfetch 29 95 = some (2, .iload_n 1, 1) := by decide +kernel
theorem i29_96 : zfetch 29 96 = some (2, .invokevirtual 82, 3) := by decide +kernel
theorem i29_99 : zfetch 29 99 = some (2, .if_icmp .ge 7, 3) := by decide +kernel
theorem i29_102 : zfetch 29 102 = some (2, .iconst 1, 1) := by decide +kernel
theorem i29_103 : zfetch 29 103 = some (2, .goto 4, 3) := by decide +kernel
theorem i29_106 : zfetch 29 106 = some (2, .iconst 0, 1) := by decide +kernel
theorem i29_107 : zfetch 29 107 = some (2, .istore 4, 2) := by decide +kernel
theorem i29_109 : zfetch 29 109 = some (2, .iload_n 3, 1) := by decide +kernel
theorem i29_110 : zfetch 29 110 = some (2, .ifCond .ne 8, 3) := by decide +kernel
theorem i29_113 : zfetch 29 113 = some (2, .iload 4, 2) := by decide +kernel
theorem i29_115 : zfetch 29 115 = some (2, .ifCond .eq 7, 3) := by decide +kernel
theorem i29_118 : zfetch 29 118 = some (2, .iconst 1, 1) := by decide +kernel
theorem i29_119 : zfetch 29 119 = some (2, .goto 4, 3) := by decide +kernel
theorem i29_122 : zfetch 29 122 = some (2, .iconst 0, 1) := by decide +kernel
theorem i29_123 : zfetch 29 123 = some (2, .ireturn, 1) := by decide +kernel
theorem i30_0 : zfetch 30 0 = some (2, .aload_n 0, 1) := by decide +kernel
theorem i30_1 : zfetch 30 1 = some (2, .getfield 40, 3) := by decide +kernel
theorem i30_4 : zfetch 30 4 = some (2, .aload_n 0, 1) := by decide +kernel
theorem i30_5 : zfetch 30 5 = some (2, .iload_n 1, 1) := by decide +kernel
theorem i30_6 : zfetch 30 6 = some (2, .invokevirtual 85, 3) := by decide +kernel
theorem i30_9 : zfetch 30 9 = some (2, .aload_n 0, 1) := by decide +kernel
theorem i30_10 : zfetch 30 10 = some (2, .getfield 27, 3) := by decide +kernel
theorem i30_13 : zfetch 30 13 = some (2, .iload_n 1, 1) := by decide +kernel
theorem i30_14 : zfetch 30 14 = some (2, .iaload, 1) := by decide +kernel
theorem i30_15 : zfetch 30 15 = some (2, .aload_n 0, 1) := by decide +kernel
theorem i30_16 : zfetch 30 16 = some (2, .getfield 56, 3) := by decide +kernel
theorem i30_19 : zfetch 30 19 = some (2, .bipush 8, 2) := by decide +kernel
theorem i30_21 : zfetch 30 21 = some (2, .irem, 1) := by decide +kernel
theorem i30_22 : zfetch 30 22 = some (2, .invokevirtual 88, 3) := by decide +kernel
theorem i30_25 : zfetch 30 25 = some (2, .ireturn, 1) := by decide +kernel
theorem i31_0 : zfetch 31 0 = some (2, .aload_n 0, 1) := by decide +kernel
theorem i31_1 : zfetch 31 1 = some (2, .getfield 44, 3) := by decide +kernel
theorem i31_4 : zfetch 31 4 = some (2, .aload_n 0, 1) := by decide +kernel
theorem i31_5 : zfetch 31 5 = some (2, .iload_n 1, 1) := by decide +kernel
theorem i31_6 : zfetch 31 6 = some (2, .invokevirtual 94, 3) := by decide +kernel
theorem i31_9 : zfetch 31 9 = some (2, .aload_n 0, 1) := by decide +kernel
theorem i31_10 : zfetch 31 10 = some (2, .getfield 24, 3) := by decide +kernel
theorem i31_13 : zfetch 31 13 = some (2, .iload_n 1, 1) := by decide +kernel
theorem i31_14 : zfetch 31 14 = some (2, .iaload, 1) := by decide +kernel
theorem i31_15 : zfetch 31 15 = some (2, .aload_n 0, 1) := by decide +kernel
theorem i31_16 : zfetch 31 16 = some (2, .getfield 56, 3) := by decide +kernel
theorem i31_19 : zfetch 31 19 = some (2, .bipush 8, 2) := by decide +kernel
theorem i31_21 : zfetch 31 21 = some (2, .irem, 1) := by decide +kernel
theorem i31_22 : zfetch 31 22 = some (2, .invokevirtual 88, 3) := by decide +kernel
theorem i31_25 : zfetch 31 25 = some (2, .ireturn, 1) := by decide +kernel
theorem i32_0 : zfetch 32 0 = some (2, .aload_n 0, 1) := by decide +kernel
theorem i32_1 : zfetch 32 1 = some (2, .getfield 9, 3) := by decide +kernel
theorem i32_4 : zfetch 32 4 = some (2, .iload_n 1, 1) := by decide +kernel
theorem i32_5 : zfetch 32 5 = some (2, .iaload, 1) := by decide +kernel
theorem i32_6 : zfetch 32 6 = some (2, .tableswitch 100 0 5 #[38, 40, 42, 57, 59, 73], 38) := by decide +kernel
theorem i32_44 : zfetch 32 44 = some (2, .iconst 0, 1) := by decide +kernel
theorem i32_45 : zfetch 32 45 = some (2, .ireturn, 1) := by decide +kernel
theorem i32_46 : zfetch 32 46 = some (2, .iconst 1, 1) := by decide +kernel
theorem i32_47 : zfetch 32 47 = some (2, .ireturn, 1) := by decide +kernel
theorem i32_48 : zfetch 32 48 = some (2, .aload_n 0, 1) := by decide +kernel
theorem i32_49 : zfetch 32 49 = some (2, .getfield 27, 3) := by decide +kernel
theorem i32_52 : zfetch 32 52 = some (2, .iload_n 1, 1) := by decide +kernel
theorem i32_53 : zfetch 32 53 = some (2, .iaload, 1) := by decide +kernel
theorem i32_54 : zfetch 32 54 = some (2, .ifCond .le 7, 3) := by decide +kernel
theorem i32_57 : zfetch 32 57 = some (2, .iconst 3, 1) := by decide +kernel
theorem i32_58 : zfetch 32 58 = some (2, .goto 4, 3) := by decide +kernel
theorem i32_61 : zfetch 32 61 = some (2, .iconst 0, 1) := by decide +kernel
theorem i32_62 : zfetch 32 62 = some (2, .ireturn, 1) := by decide +kernel
theorem i32_63 : zfetch 32 63 = some (2, .iconst 2, 1) := by decide +kernel
theorem i32_64 : zfetch 32 64 = some (2, .ireturn, 1) := by decide +kernel
theorem i32_65 : zfetch 32 65 = some (2, .aload_n 0, 1) := by decide +kernel
theorem i32_66 : zfetch 32 66 = some (2, .iload_n 1, 1) := by decide +kernel
theorem i32_67 : zfetch 32 67 = some (2, .invokevirtual 97, 3) := by decide +kernel
theorem i32_70 : zfetch 32 70 = some (2, .ifCond .eq 7, 3) := by decide +kernel
theorem i32_73 : zfetch 32 73 = some (2, .iconst 0, 1) := by decide +kernel
theorem i32_74 : zfetch 32 74 = some (2, .goto 4, 3) := by decide +kernel
theorem i32_77 : zfetch 32 77 = some (2, .iconst 1, 1) := by decide +kernel
theorem i32_78 : zfetch 32 78 = some (2, .ireturn, 1) := by decide +kernel
theorem i32_79 : zfetch 32 79 = some (2, .aload_n 0, 1) := by decide +kernel
theorem i32_80 : zfetch 32 80 = some (2, .getfield 15, 3) := by decide +kernel
theorem i32_83 : zfetch 32 83 = some (2, .iload_n 1, 1) := by decide +kernel
theorem i32_84 : zfetch 32 84 = some (2, .iaload, 1) := by decide +kernel
theorem i32_85 : zfetch 32 85 = some (2, .iconst 4, 1) := by decide +kernel
theorem i32_86 : zfetch 32 86 = some (2, .if_icmp .gt 5, 3) := by decide +kernel
theorem i32_89 : zfetch 32 89 = some (2, .iconst 2, 1) := by decide +kernel
theorem i32_90 : zfetch 32 90 = some (2, .ireturn, 1) := by decide +kernel
theorem i32_91 : zfetch 32 91 = some (2, .aload_n 0, 1) := by decide +kernel
theorem i32_92 : zfetch 32 92 = some (2, .getfield 27, 3) := by decide +kernel
theorem i32_95 : zfetch 32 95 = some (2, .iload_n 1, 1) := by decide +kernel
theorem i32_96 : zfetch 32 96 = some (2, .iaload, 1) := by decide +kernel
theorem i32_97 : zfetch 32 97 = some (2, .ifCond .le 7, 3) := by decide +kernel
theorem i32_100 : zfetch 32 100 = some (2, .iconst 3, 1) := by decide +kernel
theorem i32_101 : zfetch 32 101 = some (2, .goto 4, 3) := by decide +kernel
theorem i32_104 : zfetch 32 104 = some (2, .iconst 0, 1) := by decide +kernel
theorem i32_105 : zfetch 32 105 = some (2, .ireturn, 1) := by decide +kernel
theorem i32_106 : zfetch 32 106 = some (2, .aload_n 0, 1) := by decide +kernel
theorem i32_107 : zfetch 32 107 = some (2, .getfield 56, 3) := by decide +kernel
theorem i32_110 : zfetch 32 110 = some (2, .aload_n 0, 1) := by decide +kernel
theorem i32_111 : zfetch 32 111 = some (2, .getfield 15, 3) := by decide +kernel
theorem i32_114 : zfetch 32 114 = some (2, .iload_n 1, 1) := by decide +kernel
theorem i32_115 : zfetch 32 115 = some (2, .iaload, 1) := by decide +kernel
theorem i32_116 : zfetch 32 116 = some (2, .iadd, 1) := by decide +kernel
theorem i32_117 : zfetch 32 117 = some (2, .iconst 4, 1) := by decide +kernel
theorem i32_118 : zfetch 32 118 = some (2, .irem, 1) := by decide +kernel
theorem i32_119 : zfetch 32 119 = some (2, .ireturn, 1) := by decide +kernel
theorem i33_0 : zfetch 33 0 = some (2, .iload_n 1, 1) := by decide +kernel
theorem i33_1 : zfetch 33 1 = some (2, .iconst 1, 1) := by decide +kernel
theorem i33_2 : zfetch 33 2 = some (2, .iadd, 1) := by decide +kernel
theorem i33_3 : zfetch 33 3 = some (2, .istore_n 2, 1) := by decide +kernel
theorem i33_4 : zfetch 33 4 = some (2, .iload_n 2, 1) := by decide +kernel
theorem i33_5 : zfetch 33 5 = some (2, .aload_n 0, 1) := by decide +kernel
theorem i33_6 : zfetch 33 6 = some (2, .getfield 53, 3) := by decide +kernel
theorem i33_9 : zfetch 33 9 = some (2, .if_icmp .ge 21, 3) := by decide +kernel
theorem i33_12 : zfetch 33 12 = some (2, .aload_n 0, 1) := by decide +kernel
theorem i33_13 : zfetch 33 13 = some (2, .getfield 18, 3) := by decide +kernel
theorem i33_16 : zfetch 33 16 = some (2, .iload_n 2, 1) := by decide +kernel
theorem i33_17 : zfetch 33 17 = some (2, .iaload, 1) := by decide +kernel
theorem i33_18 : zfetch 33 18 = some (2, .iload_n 1, 1) := by decide +kernel
theorem i33_19 : zfetch 33 19 = some (2, .if_icmp .ne 5, 3) := by decide +kernel
theorem i33_22 : zfetch 33 22 = some (2, .iconst 1, 1) := by decide +kernel
theorem i33_23 : zfetch 33 23 = some (2, .ireturn, 1) := by decide +kernel
theorem i33_24 : zfetch 33 24 = some (2, .iinc 2 1, 3) := by decide +kernel
theorem i33_27 : zfetch 33 27 = some (2, .goto (-23), 3) := by decide +kernel
theorem i33_30 : zfetch 33 30 = some (2, .iconst 0, 1) := by decide +kernel
theorem i33_31 : zfetch 33 31 = some (2, .ireturn, 1) := by decide +kernel
theorem i34_0 : zfetch 34 0 = some (2, .aload_n 0, 1) := by decide +kernel
theorem i34_1 : zfetch 34 1 = some (2, .getfield 9, 3) := by decide +kernel
theorem i34_4 : zfetch 34 4 = some (2, .iload_n 1, 1) := by decide +kernel
theorem i34_5 : zfetch 34 5 = some (2, .iaload, 1) := by decide +kernel
theorem i34_6 : zfetch 34 6 = some (2, .tableswitch 78 0 5 #[38, 40, 49, 51, 60, 76], 38) := by decide +kernel
theorem i34_44 : zfetch 34 44 = some (2, .iconst 2, 1) := by decide +kernel
theorem i34_45 : zfetch 34 45 = some (2, .ireturn, 1) := by decide +kernel
theorem i34_46 : zfetch 34 46 = some (2, .iconst 2, 1) := by decide +kernel
theorem i34_47 : zfetch 34 47 = some (2, .aload_n 0, 1) := by decide +kernel
theorem i34_48 : zfetch 34 48 = some (2, .getfield 56, 3) := by decide +kernel
theorem i34_51 : zfetch 34 51 = some (2, .iconst 2, 1) := by decide +kernel
theorem i34_52 : zfetch 34 52 = some (2, .irem, 1) := by decide +kernel
theorem i34_53 : zfetch 34 53 = some (2, .iadd, 1) := by decide +kernel
theorem i34_54 : zfetch 34 54 = some (2, .ireturn, 1) := by decide +kernel
theorem i34_55 : zfetch 34 55 = some (2, .iconst 1, 1) := by decide +kernel
theorem i34_56 : zfetch 34 56 = some (2, .ireturn, 1) := by decide +kernel
theorem i34_57 : zfetch 34 57 = some (2, .aload_n 0, 1) := by decide +kernel
theorem i34_58 : zfetch 34 58 = some (2, .getfield 15, 3) := by decide +kernel
theorem i34_61 : zfetch 34 61 = some (2, .iload_n 1, 1) := by decide +kernel
theorem i34_62 : zfetch 34 62 = some (2, .iaload, 1) := by decide +kernel
theorem i34_63 : zfetch 34 63 = some (2, .iconst 5, 1) := by decide +kernel
theorem i34_64 : zfetch 34 64 = some (2, .idiv, 1) := by decide +kernel
theorem i34_65 : zfetch 34 65 = some (2, .ireturn, 1) := by decide +kernel
theorem i34_66 : zfetch 34 66 = some (2, .iconst 2, 1) := by decide +kernel
theorem i34_67 : zfetch 34 67 = some (2, .aload_n 0, 1) := by decide +kernel
theorem i34_68 : zfetch 34 68 = some (2, .getfield 56, 3) := by decide +kernel
theorem i34_71 : zfetch 34 71 = some (2, .iconst 2, 1) := by decide +kernel
theorem i34_72 : zfetch 34 72 = some (2, .irem, 1) := by decide +kernel
theorem i34_73 : zfetch 34 73 = some (2, .iadd, 1) := by decide +kernel
theorem i34_74 : zfetch 34 74 = some (2, .aload_n 0, 1) := by decide +kernel
theorem i34_75 : zfetch 34 75 = some (2, .getfield 15, 3) := by decide +kernel
theorem i34_78 : zfetch 34 78 = some (2, .iload_n 1, 1) := by decide +kernel
theorem i34_79 : zfetch 34 79 = some (2, .iaload, 1) := by decide +kernel
theorem i34_80 : zfetch 34 80 = some (2, .iadd, 1) := by decide +kernel
theorem i34_81 : zfetch 34 81 = some (2, .ireturn, 1) := by decide +kernel
theorem i34_82 : zfetch 34 82 = some (2, .iconst 4, 1) := by decide +kernel
theorem i34_83 : zfetch 34 83 = some (2, .ireturn, 1) := by decide +kernel
theorem i34_84 : zfetch 34 84 = some (2, .iconst 1, 1) := by decide +kernel
theorem i34_85 : zfetch 34 85 = some (2, .ireturn, 1) := by decide +kernel
theorem i35_0 : zfetch 35 0 = some (2, .iconst 0, 1) := by decide +kernel
theorem i35_1 : zfetch 35 1 = some (2, .istore_n 2, 1) := by decide +kernel
theorem i35_2 : zfetch 35 2 = some (2, .iload_n 2, 1) := by decide +kernel
theorem i35_3 : zfetch 35 3 = some (2, .iload_n 1, 1) := by decide +kernel
theorem i35_4 : zfetch 35 4 = some (2, .if_icmp .ge 13, 3) := by decide +kernel
theorem i35_7 : zfetch 35 7 = some (2, .aload_n 0, 1) := by decide +kernel
theorem i35_8 : zfetch 35 8 = some (2, .invokevirtual 100, 3) := by decide +kernel
theorem i35_11 : zfetch 35 11 = some (2, .iinc 2 1, 3) := by decide +kernel
theorem i35_14 : zfetch 35 14 = some (2, .goto (-12), 3) := by decide +kernel
theorem i35_17 : zfetch 35 17 = some (2, .return_, 1) := by decide +kernel
theorem i36_0 : zfetch 36 0 = some (2, .aload_n 0, 1) := by decide +kernel
theorem i36_1 : zfetch 36 1 = some (2, .getfield 30, 3) := by decide +kernel
theorem i36_4 : zfetch 36 4 = some (2, .aload_n 0, 1) := by decide +kernel
theorem i36_5 : zfetch 36 5 = some (2, .getfield 56, 3) := by decide +kernel
theorem i36_8 : zfetch 36 8 = some (2, .bipush 6, 2) := by decide +kernel
theorem i36_10 : zfetch 36 10 = some (2, .irem, 1) := by decide +kernel
theorem i36_11 : zfetch 36 11 = some (2, .iaload, 1) := by decide +kernel
theorem i36_12 : zfetch 36 12 = some (2, .istore_n 1, 1) := by decide +kernel
theorem i36_13 : zfetch 36 13 = some (2, .iload_n 1, 1) := by decide +kernel
theorem i36_14 : zfetch 36 14 = some (2, .bipush 10, 2) := by decide +kernel
theorem i36_16 : zfetch 36 16 = some (2, .idiv, 1) := by decide +kernel
theorem i36_17 : zfetch 36 17 = some (2, .istore_n 2, 1) := by decide +kernel
theorem i36_18 : zfetch 36 18 = some (2, .iload_n 2, 1) := by decide +kernel
theorem i36_19 : zfetch 36 19 = some (2, .aload_n 0, 1) := by decide +kernel
theorem i36_20 : zfetch 36 20 = some (2, .getfield 53, 3) := by decide +kernel
theorem i36_23 : zfetch 36 23 = some (2, .if_icmp .ge 43, 3) := by decide +kernel
theorem i36_26 : zfetch 36 26 = some (2, .aload_n 0, 1) := by decide +kernel
theorem i36_27 : zfetch 36 27 = some (2, .iload_n 2, 1) := by decide +kernel
theorem i36_28 : zfetch 36 28 = some (2, .invokevirtual 103, 3) := by decide +kernel
theorem i36_31 : zfetch 36 31 = some (2, .istore_n 3, 1) := by decide +kernel
theorem i36_32 : zfetch 36 32 = some (2, .iconst 1, 1) := by decide +kernel
theorem i36_33 : zfetch 36 33 = some (2, .istore 4, 2) := by decide +kernel
theorem i36_35 : zfetch 36 35 = some (2, .iconst 0, 1) := by decide +kernel
theorem i36_36 : zfetch 36 36 = some (2, .istore 5, 2) := by decide +kernel
theorem i36_38 : zfetch 36 38 = some (2, .iload 5, 2) := by decide +kernel
theorem i36_40 : zfetch 36 40 = some (2, .iload_n 3, 1) := by decide +kernel
theorem i36_41 : zfetch 36 41 = some (2, .if_icmp .ge 25, 3) := by decide +kernel
theorem i36_44 : zfetch 36 44 = some (2, .iload 4, 2) := by decide +kernel
theorem i36_46 : zfetch 36 46 = some (2, .ifCond .eq 20, 3) := by decide +kernel
theorem i36_49 : zfetch 36 49 = some (2, .aload_n 0, 1) := by decide +kernel
theorem i36_50 : zfetch 36 50 = some (2, .iload_n 2, 1) := by decide +kernel
theorem i36_51 : zfetch 36 51 = some (2, .iload_n 1, 1) := by decide +kernel
theorem i36_52 : zfetch 36 52 = some (2, .bipush 10, 2) := by decide +kernel
theorem i36_54 : zfetch 36 54 = some (2, .irem, 1) := by decide +kernel
theorem i36_55 : zfetch 36 55 = some (2, .invokevirtual 106, 3) := by decide +kernel
theorem i36_58 : zfetch 36 58 = some (2, .istore 4, 2) := by decide +kernel
theorem i36_60 : zfetch 36 60 = some (2, .iinc 5 1, 3) := by decide +kernel
theorem i36_63 : zfetch 36 63 = some (2, .goto (-25), 3) := by decide +kernel
theorem i36_66 : zfetch 36 66 = some (2, .aload_n 0, 1) := by decide +kernel
theorem i36_67 : zfetch 36 67 = some (2, .dup, 1) := by decide +kernel
theorem i36_68 : zfetch 36 68 = some (2, .getfield 56, 3) := by decide +kernel
theorem i36_71 : zfetch 36 71 = some (2, .iconst 1, 1) := by decide +kernel
theorem i36_72 : zfetch 36 72 = some (2, .iadd, 1) := by decide +kernel
theorem i36_73 : zfetch 36 73 = some (2, .putfield 56, 3) := by decide +kernel
theorem i36_76 : zfetch 36 76 = some (2, .return_, 1) := by decide +kernel
theorem i37_0 : zfetch 37 0 = some (2, .aload_n 0, 1) := by decide +kernel
theorem i37_1 : zfetch 37 1 = some (2, .invokevirtual 110, 3) := by decide +kernel
theorem i37_4 : zfetch 37 4 = some (2, .bipush 8, 2) := by decide +kernel
theorem i37_6 : zfetch 37 6 = some (2, .irem, 1) := by decide +kernel
theorem i37_7 : zfetch 37 7 = some (2, .istore_n 1, 1) := by decide +kernel
theorem i37_8 : zfetch 37 8 = some (2, .aload_n 0, 1) := by decide +kernel
theorem i37_9 : zfetch 37 9 = some (2, .invokevirtual 110, 3) := by decide +kernel
theorem i37_12 : zfetch 37 12 = some (2, .iconst 2, 1) := by decide +kernel
theorem i37_13 : zfetch 37 13 = some (2, .irem, 1) := by decide +kernel
theorem i37_14 : zfetch 37 14 = some (2, .istore_n 2, 1) := by decide +kernel
theorem i37_15 : zfetch 37 15 = some (2, .aload_n 0, 1) := by decide +kernel
theorem i37_16 : zfetch 37 16 = some (2, .getfield 30, 3) := by decide +kernel
theorem i37_19 : zfetch 37 19 = some (2, .aload_n 0, 1) := by decide +kernel
theorem i37_20 : zfetch 37 20 = some (2, .getfield 56, 3) := by decide +kernel
theorem i37_23 : zfetch 37 23 = some (2, .bipush 6, 2) := by decide +kernel
theorem i37_25 : zfetch 37 25 = some (2, .irem, 1) := by decide +kernel
theorem i37_26 : zfetch 37 26 = some (2, .bipush 10, 2) := by decide +kernel
theorem i37_28 : zfetch 37 28 = some (2, .iload_n 1, 1) := by decide +kernel
theorem i37_29 : zfetch 37 29 = some (2, .imul, 1) := by decide +kernel
theorem i37_30 : zfetch 37 30 = some (2, .iload_n 2, 1) := by decide +kernel
theorem i37_31 : zfetch 37 31 = some (2, .iadd, 1) := by decide +kernel
theorem i37_32 : zfetch 37 32 = some (2, .iastore, 1) := by decide +kernel
theorem i37_33 : zfetch 37 33 = some (2, .return_, 1) := by decide +kernel
theorem i38_0 : zfetch 38 0 = some (2, .aload_n 0, 1) := by decide +kernel
theorem i38_1 : zfetch 38 1 = some (2, .aload_n 0, 1) := by decide +kernel
theorem i38_2 : zfetch 38 2 = some (2, .getfield 33, 3) := by decide +kernel
theorem i38_5 : zfetch 38 5 = some (2, .ldc 114, 2) := by decide +kernel
theorem i38_7 : zfetch 38 7 = some (2, .imul, 1) := by decide +kernel
theorem i38_8 : zfetch 38 8 = some (2, .sipush 12345, 3) := by decide +kernel
theorem i38_11 : zfetch 38 11 = some (2, .iadd, 1) := by decide +kernel
theorem i38_12 : zfetch 38 12 = some (2, .putfield 33, 3) := by decide +kernel
theorem i38_15 : zfetch 38 15 = some (2, .aload_n 0, 1) := by decide +kernel
theorem i38_16 : zfetch 38 16 = some (2, .getfield 33, 3) := by decide +kernel
theorem i38_19 : zfetch 38 19 = some (2, .bipush 8, 2) := by decide +kernel
theorem i38_21 : zfetch 38 21 = some (2, .iushr, 1) := by decide +kernel
theorem i38_22 : zfetch 38 22 = some (2, .ireturn, 1) := by decide +kernel
theorem i39_0 : zfetch 39 0 = some (2, .iload_n 2, 1) := by decide +kernel
theorem i39_1 : zfetch 39 1 = some (2, .ifCond .ne 14, 3) := by decide +kernel
theorem i39_4 : zfetch 39 4 = some (2, .aload_n 0, 1) := by decide +kernel
theorem i39_5 : zfetch 39 5 = some (2, .getfield 21, 3) := by decide +kernel
theorem i39_8 : zfetch 39 8 = some (2, .iload_n 1, 1) := by decide +kernel
theorem i39_9 : zfetch 39 9 = some (2, .iaload, 1) := by decide +kernel
theorem i39_10 : zfetch 39 10 = some (2, .iconst 1, 1) := by decide +kernel
theorem i39_11 : zfetch 39 11 = some (2, .isub, 1) := by decide +kernel
theorem i39_12 : zfetch 39 12 = some (2, .goto 11, 3) := by decide +kernel
theorem i39_15 : zfetch 39 15 = some (2, .aload_n 0, 1) := by decide +kernel
theorem i39_16 : zfetch 39 16 = some (2, .getfield 21, 3) := by decide +kernel
theorem i39_19 : zfetch 39 19 = some (2, .iload_n 1, 1) := by decide +kernel
theorem i39_20 : zfetch 39 20 = some (2, .iaload, 1) := by decide +kernel
theorem i39_21 : zfetch 39 21 = some (2, .iconst 1, 1) := by decide +kernel
theorem i39_22 : zfetch 39 22 = some (2, .iadd, 1) := by decide +kernel
theorem i39_23 : zfetch 39 23 = some (2, .istore_n 3, 1) := by decide +kernel
theorem i39_24 : zfetch 39 24 = some (2, .iload_n 3, 1) := by decide +kernel
theorem i39_25 : zfetch 39 25 = some (2, .ifCond .lt 9, 3) := by decide +kernel
theorem i39_28 : zfetch 39 28 = some (2, .iload_n 3, 1) := by decide +kernel
theorem i39_29 : zfetch 39 29 = some (2, .bipush 63, 2) := by decide +kernel
theorem i39_31 : zfetch 39 31 = some (2, .if_icmp .le 5, 3) := by decide +kernel
theorem i39_34 : zfetch 39 34 = some (2, .iconst 0, 1) := by decide +kernel
theorem i39_35 : zfetch 39 35 = some (2, .ireturn, 1) := by decide +kernel
theorem i39_36 : zfetch 39 36 = some (2, .aload_n 0, 1) := by decide +kernel
theorem i39_37 : zfetch 39 37 = some (2, .invokevirtual 115, 3) := by decide +kernel
theorem i39_40 : zfetch 39 40 = some (2, .aload_n 0, 1) := by decide +kernel
theorem i39_41 : zfetch 39 41 = some (2, .getfield 21, 3) := by decide +kernel
theorem i39_44 : zfetch 39 44 = some (2, .iload_n 1, 1) := by decide +kernel
theorem i39_45 : zfetch 39 45 = some (2, .iload_n 3, 1) := by decide +kernel
theorem i39_46 : zfetch 39 46 = some (2, .iastore, 1) := by decide +kernel
theorem i39_47 : zfetch 39 47 = some (2, .aload_n 0, 1) := by decide +kernel
theorem i39_48 : zfetch 39 48 = some (2, .iconst 1, 1) := by decide +kernel
theorem i39_49 : zfetch 39 49 = some (2, .iload_n 1, 1) := by decide +kernel
theorem i39_50 : zfetch 39 50 = some (2, .ishl, 1) := by decide +kernel
theorem i39_51 : zfetch 39 51 = some (2, .putfield 118, 3) := by decide +kernel
theorem i39_54 : zfetch 39 54 = some (2, .iconst 0, 1) := by decide +kernel
theorem i39_55 : zfetch 39 55 = some (2, .istore 4, 2) := by decide +kernel
theorem i39_57 : zfetch 39 57 = some (2, .iload 4, 2) := by decide +kernel
theorem i39_59 : zfetch 39 59 = some (2, .sipush 10000, 3) := by decide +kernel
theorem i39_62 : zfetch 39 62 = some (2, .if_icmp .ge 90, 3) := by decide +kernel
theorem i39_65 : zfetch 39 65 = some (2, .aload_n 0, 1) := by decide +kernel
theorem i39_66 : zfetch 39 66 = some (2, .invokevirtual 121, 3) := by decide +kernel
theorem i39_69 : zfetch 39 69 = some (2, .istore 5, 2) := by decide +kernel
theorem i39_71 : zfetch 39 71 = some (2, .iload 5, 2) := by decide +kernel
theorem i39_73 : zfetch 39 73 = some (2, .ifCond .ge 5, 3) := by decide +kernel
theorem i39_76 : zfetch 39 76 = some (2, .iconst 1, 1) := by decide +kernel
theorem i39_77 : zfetch 39 77 = some (2, .ireturn, 1) := by decide +kernel
theorem i39_78 : zfetch 39 78 = some (2, .aload_n 0, 1) := by decide +kernel
theorem i39_79 : zfetch 39 79 = some (2, .getfield 27, 3) := by decide +kernel
theorem i39_82 : zfetch 39 82 = some (2, .iload 5, 2) := by decide +kernel
theorem i39_84 : zfetch 39 84 = some (2, .iaload, 1) := by decide +kernel
theorem i39_85 : zfetch 39 85 = some (2, .ifCond .le 14, 3) := by decide +kernel
theorem i39_88 : zfetch 39 88 = some (2, .aload_n 0, 1) := by decide +kernel
theorem i39_89 : zfetch 39 89 = some (2, .iload 5, 2) := by decide +kernel
theorem i39_91 : zfetch 39 91 = some (2, .iload 5, 2) := by decide +kernel
theorem i39_93 : zfetch 39 93 = some (2, .invokevirtual 124, 3) := by decide +kernel
theorem i39_96 : zfetch 39 96 = some (2, .goto 50, 3) := by decide +kernel
theorem i39_99 : zfetch 39 99 = some (2, .aload_n 0, 1) := by decide +kernel
theorem i39_100 : zfetch 39 100 = some (2, .iload 5, 2) := by decide +kernel
theorem i39_102 : zfetch 39 102 = some (2, .invokevirtual 128, 3) := by decide +kernel
theorem i39_105 : zfetch 39 105 = some (2, .istore 6, 2) := by decide +kernel
theorem i39_107 : zfetch 39 107 = some (2, .iload 6, 2) := by decide +kernel
theorem i39_109 : zfetch 39 109 = some (2, .ifCond .ge 7, 3) := by decide +kernel
theorem i39_112 : zfetch 39 112 = some (2, .iconst 1, 1) := by decide +kernel
theorem i39_113 : zfetch 39 113 = some (2, .goto 9, 3) := by decide +kernel
theorem i39_116 : zfetch 39 116 = some (2, .aload_n 0, 1) := by decide +kernel
theorem i39_117 : zfetch 39 117 = some (2, .iload 6, 2) := by decide +kernel
theorem i39_119 : zfetch 39 119 = some (2, .invokevirtual 131, 3) := by decide +kernel
theorem i39_122 : zfetch 39 122 = some (2, .istore 7, 2) := by decide +kernel
theorem i39_124 : zfetch 39 124 = some (2, .iload 7, 2) := by decide +kernel
theorem i39_126 : zfetch 39 126 = some (2, .iconst 2, 1) := by decide +kernel
theorem i39_127 : zfetch 39 127 = some (2, .if_icmp .ne 9, 3) := by decide +kernel
theorem i39_130 : zfetch 39 130 = some (2, .aload_n 0, 1) := by decide +kernel
theorem i39_131 : zfetch 39 131 = some (2, .invokevirtual 134, 3) := by decide +kernel
theorem i39_134 : zfetch 39 134 = some (2, .iconst 0, 1) := by decide +kernel
theorem i39_135 : zfetch 39 135 = some (2, .ireturn, 1) := by decide +kernel
theorem i39_136 : zfetch 39 136 = some (2, .aload_n 0, 1) := by decide +kernel
theorem i39_137 : zfetch 39 137 = some (2, .iload 5, 2) := by decide +kernel
theorem i39_139 : zfetch 39 139 = some (2, .iload 6, 2) := by decide +kernel
theorem i39_141 : zfetch 39 141 = some (2, .iload 7, 2) := by decide +kernel
theorem i39_143 : zfetch 39 143 = some (2, .invokevirtual 137, 3) := by decide +kernel
theorem i39_146 : zfetch 39 146 = some (2, .iinc 4 1, 3) := by decide +kernel
theorem i39_149 : zfetch 39 149 = some (2, .goto (-92), 3) := by decide +kernel
theorem i39_152 : zfetch 39 152 = some (2, .iconst 1, 1) := by decide +kernel
theorem i39_153 : zfetch 39 153 = some (2, .ireturn, 1) := by decide +kernel
theorem i40_0 : zfetch 40 0 = some (2, .aload_n 0, 1) := by decide +kernel
theorem i40_1 : zfetch 40 1 = some (2, .getfield 18, 3) := by decide +kernel
theorem i40_4 : zfetch 40 4 = some (2, .iconst 0, 1) := by decide +kernel
theorem i40_5 : zfetch 40 5 = some (2, .aload_n 0, 1) := by decide +kernel
theorem i40_6 : zfetch 40 6 = some (2, .getfield 37, 3) := by decide +kernel
theorem i40_9 : zfetch 40 9 = some (2, .iconst 0, 1) := by decide +kernel
theorem i40_10 : zfetch 40 10 = some (2, .bipush 8, 2) := by decide +kernel
theorem i40_12 : zfetch 40 12 = some (2, .invokestatic 47, 3) := by decide +kernel
theorem i40_15 : zfetch 40 15 = some (2, .aload_n 0, 1) := by decide +kernel
theorem i40_16 : zfetch 40 16 = some (2, .getfield 21, 3) := by decide +kernel
theorem i40_19 : zfetch 40 19 = some (2, .iconst 0, 1) := by decide +kernel
theorem i40_20 : zfetch 40 20 = some (2, .aload_n 0, 1) := by decide +kernel
theorem i40_21 : zfetch 40 21 = some (2, .getfield 37, 3) := by decide +kernel
theorem i40_24 : zfetch 40 24 = some (2, .bipush 8, 2) := by decide +kernel
theorem i40_26 : zfetch 40 26 = some (2, .bipush 8, 2) := by decide +kernel
theorem i40_28 : zfetch 40 28 = some (2, .invokestatic 47, 3) := by decide +kernel
theorem i40_31 : zfetch 40 31 = some (2, .aload_n 0, 1) := by decide +kernel
theorem i40_32 : zfetch 40 32 = some (2, .getfield 24, 3) := by decide +kernel
theorem i40_35 : zfetch 40 35 = some (2, .iconst 0, 1) := by decide +kernel
theorem i40_36 : zfetch 40 36 = some (2, .aload_n 0, 1) := by decide +kernel
theorem i40_37 : zfetch 40 37 = some (2, .getfield 37, 3) := by decide +kernel
theorem i40_40 : zfetch 40 40 = some (2, .bipush 16, 2) := by decide +kernel
theorem i40_42 : zfetch 40 42 = some (2, .bipush 8, 2) := by decide +kernel
theorem i40_44 : zfetch 40 44 = some (2, .invokestatic 47, 3) := by decide +kernel
theorem i40_47 : zfetch 40 47 = some (2, .aload_n 0, 1) := by decide +kernel
theorem i40_48 : zfetch 40 48 = some (2, .getfield 27, 3) := by decide +kernel
theorem i40_51 : zfetch 40 51 = some (2, .iconst 0, 1) := by decide +kernel
theorem i40_52 : zfetch 40 52 = some (2, .aload_n 0, 1) := by decide +kernel
theorem i40_53 : zfetch 40 53 = some (2, .getfield 37, 3) := by decide +kernel
theorem i40_56 : zfetch 40 56 = some (2, .bipush 24, 2) := by decide +kernel
theorem i40_58 : zfetch 40 58 = some (2, .bipush 8, 2) := by decide +kernel
theorem i40_60 : zfetch 40 60 = some (2, .invokestatic 47, 3) := by decide +kernel
theorem i40_63 : zfetch 40 63 = some (2, .aload_n 0, 1) := by decide +kernel
theorem i40_64 : zfetch 40 64 = some (2, .getfield 37, 3) := by decide +kernel
theorem i40_67 : zfetch 40 67 = some (2, .bipush 32, 2) := by decide +kernel
theorem i40_69 : zfetch 40 69 = some (2, .aload_n 0, 1) := by decide +kernel
theorem i40_70 : zfetch 40 70 = some (2, .getfield 59, 3) := by decide +kernel
theorem i40_73 : zfetch 40 73 = some (2, .iastore, 1) := by decide +kernel
theorem i40_74 : zfetch 40 74 = some (2, .return_, 1) := by decide +kernel
theorem i41_0 : zfetch 41 0 = some (2, .aload_n 0, 1) := by decide +kernel
theorem i41_1 : zfetch 41 1 = some (2, .getfield 37, 3) := by decide +kernel
theorem i41_4 : zfetch 41 4 = some (2, .iconst 0, 1) := by decide +kernel
theorem i41_5 : zfetch 41 5 = some (2, .aload_n 0, 1) := by decide +kernel
theorem i41_6 : zfetch 41 6 = some (2, .getfield 18, 3) := by decide +kernel
theorem i41_9 : zfetch 41 9 = some (2, .iconst 0, 1) := by decide +kernel
theorem i41_10 : zfetch 41 10 = some (2, .bipush 8, 2) := by decide +kernel
theorem i41_12 : zfetch 41 12 = some (2, .invokestatic 47, 3) := by decide +kernel
theorem i41_15 : zfetch 41 15 = some (2, .aload_n 0, 1) := by decide +kernel
theorem i41_16 : zfetch 41 16 = some (2, .getfield 37, 3) := by decide +kernel
theorem i41_19 : zfetch 41 19 = some (2, .bipush 8, 2) := by decide +kernel
theorem i41_21 : zfetch 41 21 = some (2, .aload_n 0, 1) := by decide +kernel
theorem i41_22 : zfetch 41 22 = some (2, .getfield 21, 3) := by decide +kernel
theorem i41_25 : zfetch 41 25 = some (2, .iconst 0, 1) := by decide +kernel
theorem i41_26 : zfetch 41 26 = some (2, .bipush 8, 2) := by decide +kernel
theorem i41_28 : zfetch 41 28 = some (2, .invokestatic 47, 3) := by decide +kernel
theorem i41_31 : zfetch 41 31 = some (2, .aload_n 0, 1) := by decide +kernel
theorem i41_32 : zfetch 41 32 = some (2, .getfield 37, 3) := by decide +kernel
theorem i41_35 : zfetch 41 35 = some (2, .bipush 16, 2) := by decide +kernel
theorem i41_37 : zfetch 41 37 = some (2, .aload_n 0, 1) := by decide +kernel
theorem i41_38 : zfetch 41 38 = some (2, .getfield 24, 3) := by decide +kernel
theorem i41_41 : zfetch 41 41 = some (2, .iconst 0, 1) := by decide +kernel
theorem i41_42 : zfetch 41 42 = some (2, .bipush 8, 2) := by decide +kernel
theorem i41_44 : zfetch 41 44 = some (2, .invokestatic 47, 3) := by decide +kernel
theorem i41_47 : zfetch 41 47 = some (2, .aload_n 0, 1) := by decide +kernel
theorem i41_48 : zfetch 41 48 = some (2, .getfield 37, 3) := by decide +kernel
theorem i41_51 : zfetch 41 51 = some (2, .bipush 24, 2) := by decide +kernel
theorem i41_53 : zfetch 41 53 = some (2, .aload_n 0, 1) := by decide +kernel
theorem i41_54 : zfetch 41 54 = some (2, .getfield 27, 3) := by decide +kernel
theorem i41_57 : zfetch 41 57 = some (2, .iconst 0, 1) := by decide +kernel
theorem i41_58 : zfetch 41 58 = some (2, .bipush 8, 2) := by decide +kernel
theorem i41_60 : zfetch 41 60 = some (2, .invokestatic 47, 3) := by decide +kernel
theorem i41_63 : zfetch 41 63 = some (2, .aload_n 0, 1) := by decide +kernel
theorem i41_64 : zfetch 41 64 = some (2, .aload_n 0, 1) := by decide +kernel
theorem i41_65 : zfetch 41 65 = some (2, .getfield 37, 3) := by decide +kernel
theorem i41_68 : zfetch 41 68 = some (2, .bipush 32, 2) := by decide +kernel
theorem i41_70 : zfetch 41 70 = some (2, .iaload, 1) := by decide +kernel
theorem i41_71 : zfetch 41 71 = some (2, .putfield 59, 3) := by decide +kernel
theorem i41_74 : zfetch 41 74 = some (2, .return_, 1) := by decide +kernel
theorem i42_0 : zfetch 42 0 = some (2, .iconst 0, 1) := by decide +kernel
theorem i42_1 : zfetch 42 1 = some (2, .istore_n 1, 1) := by decide +kernel
theorem i42_2 : zfetch 42 2 = some (2, .iload_n 1, 1) := by decide +kernel
theorem i42_3 : zfetch 42 3 = some (2, .aload_n 0, 1) := by decide +kernel
theorem i42_4 : zfetch 42 4 = some (2, .getfield 53, 3) := by decide +kernel
theorem i42_7 : zfetch 42 7 = some (2, .if_icmp .ge 47, 3) := by decide +kernel
theorem i42_10 : zfetch 42 10 = some (2, .aload_n 0, 1) := by decide +kernel
theorem i42_11 : zfetch 42 11 = some (2, .getfield 18, 3) := by decide +kernel
theorem i42_14 : zfetch 42 14 = some (2, .iload_n 1, 1) := by decide +kernel
theorem i42_15 : zfetch 42 15 = some (2, .iaload, 1) := by decide +kernel
theorem i42_16 : zfetch 42 16 = some (2, .istore_n 2, 1) := by decide +kernel
theorem i42_17 : zfetch 42 17 = some (2, .iload_n 2, 1) := by decide +kernel
theorem i42_18 : zfetch 42 18 = some (2, .ifCond .lt 30, 3) := by decide +kernel
theorem i42_21 : zfetch 42 21 = some (2, .aload_n 0, 1) := by decide +kernel
theorem i42_22 : zfetch 42 22 = some (2, .getfield 21, 3) := by decide +kernel
theorem i42_25 : zfetch 42 25 = some (2, .iload_n 1, 1) := by decide +kernel
theorem i42_26 : zfetch 42 26 = some (2, .iaload, 1) := by decide +kernel
theorem i42_27 : zfetch 42 27 = some (2, .aload_n 0, 1) := by decide +kernel
theorem i42_28 : zfetch 42 28 = some (2, .getfield 21, 3) := by decide +kernel
theorem i42_31 : zfetch 42 31 = some (2, .iload_n 2, 1) := by decide +kernel
theorem i42_32 : zfetch 42 32 = some (2, .iaload, 1) := by decide +kernel
theorem i42_33 : zfetch 42 33 = some (2, .isub, 1) := by decide +kernel
theorem i42_34 : zfetch 42 34 = some (2, .invokestatic 70, 3) := by decide +kernel
theorem i42_37 : zfetch 42 37 = some (2, .aload_n 0, 1) := by decide +kernel
theorem i42_38 : zfetch 42 38 = some (2, .getfield 24, 3) := by decide +kernel
theorem i42_41 : zfetch 42 41 = some (2, .iload_n 1, 1) := by decide +kernel
theorem i42_42 : zfetch 42 42 = some (2, .iaload, 1) := by decide +kernel
theorem i42_43 : zfetch 42 43 = some (2, .if_icmp .le 5, 3) := by decide +kernel
theorem i42_46 : zfetch 42 46 = some (2, .iload_n 1, 1) := by decide +kernel
theorem i42_47 : zfetch 42 47 = some (2, .ireturn, 1) := by decide +kernel
theorem i42_48 : zfetch 42 48 = some (2, .iinc 1 1, 3) := by decide +kernel
theorem i42_51 : zfetch 42 51 = some (2, .goto (-49), 3) := by decide +kernel
theorem i42_54 : zfetch 42 54 = some (2, .iconst (-1), 1) := by decide +kernel
theorem i42_55 : zfetch 42 55 = some (2, .ireturn, 1) := by decide +kernel
theorem i43_0 : zfetch 43 0 = some (2, .aload_n 0, 1) := by decide +kernel
theorem i43_1 : zfetch 43 1 = some (2, .getfield 118, 3) := by decide +kernel
theorem i43_4 : zfetch 43 4 = some (2, .iload_n 1, 1) := by decide +kernel
theorem i43_5 : zfetch 43 5 = some (2, .ishr, 1) := by decide +kernel
theorem i43_6 : zfetch 43 6 = some (2, .iconst 1, 1) := by decide +kernel
theorem i43_7 : zfetch 43 7 = some (2, .iand, 1) := by decide +kernel
theorem i43_8 : zfetch 43 8 = some (2, .ifCond .ne 5, 3) := by decide +kernel
theorem i43_11 : zfetch 43 11 = some (2, .iload_n 1, 1) := by decide +kernel
theorem i43_12 : zfetch 43 12 = some (2, .ireturn, 1) := by decide +kernel
theorem i43_13 : zfetch 43 13 = some (2, .aload_n 0, 1) := by decide +kernel
theorem i43_14 : zfetch 43 14 = some (2, .getfield 18, 3) := by decide +kernel
theorem i43_17 : zfetch 43 17 = some (2, .iload_n 1, 1) := by decide +kernel
theorem i43_18 : zfetch 43 18 = some (2, .iaload, 1) := by decide +kernel
theorem i43_19 : zfetch 43 19 = some (2, .istore_n 2, 1) := by decide +kernel
theorem i43_20 : zfetch 43 20 = some (2, .aload_n 0, 1) := by decide +kernel
theorem i43_21 : zfetch 43 21 = some (2, .getfield 118, 3) := by decide +kernel
theorem i43_24 : zfetch 43 24 = some (2, .iload_n 2, 1) := by decide +kernel
theorem i43_25 : zfetch 43 25 = some (2, .ishr, 1) := by decide +kernel
theorem i43_26 : zfetch 43 26 = some (2, .iconst 1, 1) := by decide +kernel
theorem i43_27 : zfetch 43 27 = some (2, .iand, 1) := by decide +kernel
theorem i43_28 : zfetch 43 28 = some (2, .ifCond .ne 7, 3) := by decide +kernel
theorem i43_31 : zfetch 43 31 = some (2, .iload_n 2, 1) := by decide +kernel
theorem i43_32 : zfetch 43 32 = some (2, .goto 4, 3) := by decide +kernel
theorem i43_35 : zfetch 43 35 = some (2, .iconst (-1), 1) := by decide +kernel
theorem i43_36 : zfetch 43 36 = some (2, .ireturn, 1) := by decide +kernel
theorem i44_0 : zfetch 44 0 = some (2, .iload_n 3, 1) := by decide +kernel
theorem i44_1 : zfetch 44 1 = some (2, .iconst 1, 1) := by decide +kernel
theorem i44_2 : zfetch 44 2 = some (2, .if_icmp .ne 11, 3) := by decide +kernel
theorem i44_5 : zfetch 44 5 = some (2, .aload_n 0, 1) := by decide +kernel
theorem i44_6 : zfetch 44 6 = some (2, .iload_n 1, 1) := by decide +kernel
theorem i44_7 : zfetch 44 7 = some (2, .invokevirtual 141, 3) := by decide +kernel
theorem i44_10 : zfetch 44 10 = some (2, .goto 51, 3) := by decide +kernel
theorem i44_13 : zfetch 44 13 = some (2, .iload_n 3, 1) := by decide +kernel
theorem i44_14 : zfetch 44 14 = some (2, .iconst 3, 1) := by decide +kernel
theorem i44_15 : zfetch 44 15 = some (2, .if_icmp .ne 26, 3) := by decide +kernel
theorem i44_18 : zfetch 44 18 = some (2, .iload_n 2, 1) := by decide +kernel
theorem i44_19 : zfetch 44 19 = some (2, .iload_n 1, 1) := by decide +kernel
theorem i44_20 : zfetch 44 20 = some (2, .if_icmp .eq 21, 3) := by decide +kernel
theorem i44_23 : zfetch 44 23 = some (2, .aload_n 0, 1) := by decide +kernel
theorem i44_24 : zfetch 44 24 = some (2, .getfield 27, 3) := by decide +kernel
theorem i44_27 : zfetch 44 27 = some (2, .iload_n 2, 1) := by decide +kernel
theorem i44_28 : zfetch 44 28 = some (2, .iaload, 1) := by decide +kernel
theorem i44_29 : zfetch 44 29 = some (2, .ifCond .le 12, 3) := by decide +kernel
theorem i44_32 : zfetch 44 32 = some (2, .aload_n 0, 1) := by decide +kernel
theorem i44_33 : zfetch 44 33 = some (2, .iload_n 1, 1) := by decide +kernel
theorem i44_34 : zfetch 44 34 = some (2, .iload_n 2, 1) := by decide +kernel
theorem i44_35 : zfetch 44 35 = some (2, .invokevirtual 124, 3) := by decide +kernel
theorem i44_38 : zfetch 44 38 = some (2, .goto 23, 3) := by decide +kernel
theorem i44_41 : zfetch 44 41 = some (2, .aload_n 0, 1) := by decide +kernel
theorem i44_42 : zfetch 44 42 = some (2, .iload_n 2, 1) := by decide +kernel
theorem i44_43 : zfetch 44 43 = some (2, .iload_n 2, 1) := by decide +kernel
theorem i44_44 : zfetch 44 44 = some (2, .iload_n 1, 1) := by decide +kernel
theorem i44_45 : zfetch 44 45 = some (2, .if_icmp .ne 12, 3) := by decide +kernel
theorem i44_48 : zfetch 44 48 = some (2, .aload_n 0, 1) := by decide +kernel
theorem i44_49 : zfetch 44 49 = some (2, .getfield 18, 3) := by decide +kernel
theorem i44_52 : zfetch 44 52 = some (2, .iload_n 1, 1) := by decide +kernel
theorem i44_53 : zfetch 44 53 = some (2, .iaload, 1) := by decide +kernel
theorem i44_54 : zfetch 44 54 = some (2, .goto 4, 3) := by decide +kernel
theorem i44_57 : zfetch 44 57 = some (2, .iload_n 1, 1) := by decide +kernel
theorem i44_58 : zfetch 44 58 = some (2, .invokevirtual 145, 3) := by decide +kernel
theorem i44_61 : zfetch 44 61 = some (2, .return_, 1) := by decide +kernel
theorem i45_0 : zfetch 45 0 = some (2, .aload_n 0, 1) := by decide +kernel
theorem i45_1 : zfetch 45 1 = some (2, .getfield 27, 3) := by decide +kernel
theorem i45_4 : zfetch 45 4 = some (2, .iload_n 2, 1) := by decide +kernel
theorem i45_5 : zfetch 45 5 = some (2, .dup2, 1) := by decide +kernel
theorem i45_6 : zfetch 45 6 = some (2, .iaload, 1) := by decide +kernel
theorem i45_7 : zfetch 45 7 = some (2, .iconst 1, 1) := by decide +kernel
theorem i45_8 : zfetch 45 8 = some (2, .isub, 1) := by decide +kernel
theorem i45_9 : zfetch 45 9 = some (2, .iastore, 1) := by decide +kernel
theorem i45_10 : zfetch 45 10 = some (2, .aload_n 0, 1) := by decide +kernel
theorem i45_11 : zfetch 45 11 = some (2, .getfield 24, 3) := by decide +kernel
theorem i45_14 : zfetch 45 14 = some (2, .iload_n 1, 1) := by decide +kernel
theorem i45_15 : zfetch 45 15 = some (2, .dup2, 1) := by decide +kernel
theorem i45_16 : zfetch 45 16 = some (2, .iaload, 1) := by decide +kernel
theorem i45_17 : zfetch 45 17 = some (2, .iconst 1, 1) := by decide +kernel
theorem i45_18 : zfetch 45 18 = some (2, .iadd, 1) := by decide +kernel
theorem i45_19 : zfetch 45 19 = some (2, .iastore, 1) := by decide +kernel
theorem i45_20 : zfetch 45 20 = some (2, .return_, 1) := by decide +kernel
theorem i46_0 : zfetch 46 0 = some (2, .aload_n 0, 1) := by decide +kernel
theorem i46_1 : zfetch 46 1 = some (2, .iload_n 1, 1) := by decide +kernel
theorem i46_2 : zfetch 46 2 = some (2, .invokevirtual 148, 3) := by decide +kernel
theorem i46_5 : zfetch 46 5 = some (2, .aload_n 0, 1) := by decide +kernel
theorem i46_6 : zfetch 46 6 = some (2, .getfield 59, 3) := by decide +kernel
theorem i46_9 : zfetch 46 9 = some (2, .sipush 9999, 3) := by decide +kernel
theorem i46_12 : zfetch 46 12 = some (2, .if_icmp .ge 13, 3) := by decide +kernel
theorem i46_15 : zfetch 46 15 = some (2, .aload_n 0, 1) := by decide +kernel
theorem i46_16 : zfetch 46 16 = some (2, .dup, 1) := by decide +kernel
theorem i46_17 : zfetch 46 17 = some (2, .getfield 59, 3) := by decide +kernel
theorem i46_20 : zfetch 46 20 = some (2, .iconst 1, 1) := by decide +kernel
theorem i46_21 : zfetch 46 21 = some (2, .iadd, 1) := by decide +kernel
theorem i46_22 : zfetch 46 22 = some (2, .putfield 59, 3) := by decide +kernel
theorem i46_25 : zfetch 46 25 = some (2, .return_, 1) := by decide +kernel
theorem i47_0 : zfetch 47 0 = some (2, .aload_n 0, 1) := by decide +kernel
theorem i47_1 : zfetch 47 1 = some (2, .getfield 21, 3) := by decide +kernel
theorem i47_4 : zfetch 47 4 = some (2, .iload_n 1, 1) := by decide +kernel
theorem i47_5 : zfetch 47 5 = some (2, .iaload, 1) := by decide +kernel
theorem i47_6 : zfetch 47 6 = some (2, .aload_n 0, 1) := by decide +kernel
theorem i47_7 : zfetch 47 7 = some (2, .getfield 21, 3) := by decide +kernel
theorem i47_10 : zfetch 47 10 = some (2, .iload_n 2, 1) := by decide +kernel
theorem i47_11 : zfetch 47 11 = some (2, .iaload, 1) := by decide +kernel
theorem i47_12 : zfetch 47 12 = some (2, .if_icmp .ge 16, 3) := by decide +kernel
theorem i47_15 : zfetch 47 15 = some (2, .aload_n 0, 1) := by decide +kernel
theorem i47_16 : zfetch 47 16 = some (2, .getfield 21, 3) := by decide +kernel
theorem i47_19 : zfetch 47 19 = some (2, .iload_n 1, 1) := by decide +kernel
theorem i47_20 : zfetch 47 20 = some (2, .dup2, 1) := by decide +kernel
theorem i47_21 : zfetch 47 21 = some (2, .iaload, 1) := by decide +kernel
theorem i47_22 : zfetch 47 22 = some (2, .iconst 1, 1) := by decide +kernel
theorem i47_23 : zfetch 47 23 = some (2, .iadd, 1) := by decide +kernel
theorem i47_24 : zfetch 47 24 = some (2, .iastore, 1) := by decide +kernel
theorem i47_25 : zfetch 47 25 = some (2, .goto 13, 3) := by decide +kernel
theorem i47_28 : zfetch 47 28 = some (2, .aload_n 0, 1) := by decide +kernel
theorem i47_29 : zfetch 47 29 = some (2, .getfield 21, 3) := by decide +kernel
theorem i47_32 : zfetch 47 32 = some (2, .iload_n 1, 1) := by decide +kernel
theorem i47_33 : zfetch 47 33 = some (2, .dup2, 1) := by decide +kernel
theorem i47_34 : zfetch 47 34 = some (2, .iaload, 1) := by decide +kernel
theorem i47_35 : zfetch 47 35 = some (2, .iconst 1, 1) := by decide +kernel
theorem i47_36 : zfetch 47 36 = some (2, .isub, 1) := by decide +kernel
theorem i47_37 : zfetch 47 37 = some (2, .iastore, 1) := by decide +kernel
theorem i47_38 : zfetch 47 38 = some (2, .aload_n 0, 1) := by decide +kernel
theorem i47_39 : zfetch 47 39 = some (2, .dup, 1) := by decide +kernel
theorem i47_40 : zfetch 47 40 = some (2, .getfield 118, 3) := by decide +kernel
theorem i47_43 : zfetch 47 43 = some (2, .iconst 1, 1) := by decide +kernel
theorem i47_44 : zfetch 47 44 = some (2, .iload_n 1, 1) := by decide +kernel
theorem i47_45 : zfetch 47 45 = some (2, .ishl, 1) := by decide +kernel
theorem i47_46 : zfetch 47 46 = some (2, .ior, 1) := by decide +kernel
theorem i47_47 : zfetch 47 47 = some (2, .putfield 118, 3) := by decide +kernel
theorem i47_50 : zfetch 47 50 = some (2, .return_, 1) := by decide +kernel
theorem i48_0 : zfetch 48 0 = some (3, .aload_n 0, 1) := by decide +kernel
theorem i48_1 : zfetch 48 1 = some (3, .getfield 13, 3) := by decide +kernel
theorem i48_4 : zfetch 48 4 = some (3, .aload_n 0, 1) := by decide +kernel
theorem i48_5 : zfetch 48 5 = some (3, .getfield 7, 3) := by decide +kernel
theorem i48_8 : zfetch 48 8 = some (3, .arraylength, 1) := by decide +kernel
theorem i48_9 : zfetch 48 9 = some (3, .if_icmp .ge 23, 3) := by decide +kernel
theorem i48_12 : zfetch 48 12 = some (3, .aload_n 0, 1) := by decide +kernel
theorem i48_13 : zfetch 48 13 = some (3, .getfield 7, 3) := by decide +kernel
theorem i48_16 : zfetch 48 16 = some (3, .aload_n 0, 1) := by decide +kernel
theorem i48_17 : zfetch 48 17 = some (3, .getfield 13, 3) := by decide +kernel
theorem i48_20 : zfetch 48 20 = some (3, .iload_n 1, 1) := by decide +kernel
theorem i48_21 : zfetch 48 21 = some (3, .iastore, 1) := by decide +kernel
theorem i48_22 : zfetch 48 22 = some (3, .aload_n 0, 1) := by decide +kernel
theorem i48_23 : zfetch 48 23 = some (3, .dup, 1) := by decide +kernel
theorem i48_24 : zfetch 48 24 = some (3, .getfield 13, 3) := by decide +kernel
theorem i48_27 : zfetch 48 27 = some (3, .iconst 1, 1) := by decide +kernel
theorem i48_28 : zfetch 48 28 = some (3, .iadd, 1) := by decide +kernel
theorem i48_29 : zfetch 48 29 = some (3, .putfield 13, 3) := by decide +kernel
theorem i48_32 : zfetch 48 32 = some (3, .return_, 1) := by decide +kernel
theorem i49_0 : zfetch 49 0 = some (3, .iconst 0, 1) := by decide +kernel
theorem i49_1 : zfetch 49 1 = some (3, .istore_n 2, 1) := by decide +kernel
theorem i49_2 : zfetch 49 2 = some (3, .iload_n 2, 1) := by decide +kernel
theorem i49_3 : zfetch 49 3 = some (3, .aload_n 1, 1) := by decide +kernel
theorem i49_4 : zfetch 49 4 = some (3, .getfield 13, 3) := by decide +kernel
theorem i49_7 : zfetch 49 7 = some (3, .if_icmp .ge 30, 3) := by decide +kernel
theorem i49_10 : zfetch 49 10 = some (3, .iload_n 2, 1) := by decide +kernel
theorem i49_11 : zfetch 49 11 = some (3, .aload_n 0, 1) := by decide +kernel
theorem i49_12 : zfetch 49 12 = some (3, .getfield 7, 3) := by decide +kernel
theorem i49_15 : zfetch 49 15 = some (3, .arraylength, 1) := by decide +kernel
theorem i49_16 : zfetch 49 16 = some (3, .if_icmp .ge 21, 3) := by decide +kernel
theorem i49_19 : zfetch 49 19 = some (3, .aload_n 0, 1) := by decide +kernel
theorem i49_20 : zfetch 49 20 = some (3, .getfield 7, 3) := by decide +kernel
theorem i49_23 : zfetch 49 23 = some (3, .iload_n 2, 1) := by decide +kernel
theorem i49_24 : zfetch 49 24 = some (3, .aload_n 1, 1) := by decide +kernel
theorem i49_25 : zfetch 49 25 = some (3, .getfield 7, 3) := by decide +kernel
theorem i49_28 : zfetch 49 28 = some (3, .iload_n 2, 1) := by decide +kernel
theorem i49_29 : zfetch 49 29 = some (3, .iaload, 1) := by decide +kernel
theorem i49_30 : zfetch 49 30 = some (3, .iastore, 1) := by decide +kernel
theorem i49_31 : zfetch 49 31 = some (3, .iinc 2 1, 3) := by decide +kernel
theorem i49_34 : zfetch 49 34 = some (3, .goto (-32), 3) := by decide +kernel
theorem i49_37 : zfetch 49 37 = some (3, .aload_n 0, 1) := by decide +kernel
theorem i49_38 : zfetch 49 38 = some (3, .aload_n 1, 1) := by decide +kernel
theorem i49_39 : zfetch 49 39 = some (3, .getfield 13, 3) := by decide +kernel
theorem i49_42 : zfetch 49 42 = some (3, .putfield 13, 3) := by decide +kernel
theorem i49_45 : zfetch 49 45 = some (3, .return_, 1) := by decide +kernel
theorem i50_0 : zfetch 50 0 = some (4, .aload_n 0, 1) := by decide +kernel
theorem i50_1 : zfetch 50 1 = some (4, .getfield 15, 3) := by decide +kernel
theorem i50_4 : zfetch 50 4 = some (4, .ifCond .ne 7, 3) := by decide +kernel
theorem i50_7 : zfetch 50 7 = some (4, .iconst 1, 1) := by decide +kernel
theorem i50_8 : zfetch 50 8 = some (4, .goto 4, 3) := by decide +kernel
theorem i50_11 : zfetch 50 11 = some (4, .iconst 0, 1) := by decide +kernel
theorem i50_12 : zfetch 50 12 = some (4, .ireturn, 1) := by decide +kernel
theorem i51_0 : zfetch 51 0 = some (4, .aload_n 0, 1) := by decide +kernel
theorem i51_1 : zfetch 51 1 = some (4, .iload_n 1, 1) := by decide +kernel
theorem i51_2 : zfetch 51 2 = some (4, .putfield 15, 3) := by decide +kernel
theorem i51_5 : zfetch 51 5 = some (4, .aload_n 0, 1) := by decide +kernel
theorem i51_6 : zfetch 51 6 = some (4, .iload_n 2, 1) := by decide +kernel
theorem i51_7 : zfetch 51 7 = some (4, .putfield 19, 3) := by decide +kernel
theorem i51_10 : zfetch 51 10 = some (4, .iconst 0, 1) := by decide +kernel
theorem i51_11 : zfetch 51 11 = some (4, .istore_n 3, 1) := by decide +kernel
theorem i51_12 : zfetch 51 12 = some (4, .iload_n 3, 1) := by decide +kernel
theorem i51_13 : zfetch 51 13 = some (4, .bipush 24, 2) := by decide +kernel
theorem i51_15 : zfetch 51 15 = some (4, .if_icmp .ge 16, 3) := by decide +kernel
theorem i51_18 : zfetch 51 18 = some (4, .aload_n 0, 1) := by decide +kernel
theorem i51_19 : zfetch 51 19 = some (4, .getfield 9, 3) := by decide +kernel
theorem i51_22 : zfetch 51 22 = some (4, .iload_n 3, 1) := by decide +kernel
theorem i51_23 : zfetch 51 23 = some (4, .iconst 0, 1) := by decide +kernel
theorem i51_24 : zfetch 51 24 = some (4, .iastore, 1) := by decide +kernel
theorem i51_25 : zfetch 51 25 = some (4, .iinc 3 1, 3) := by decide +kernel
theorem i51_28 : zfetch 51 28 = some (4, .goto (-16), 3) := by decide +kernel
theorem i51_31 : zfetch 51 31 = some (4, .return_, 1) := by decide +kernel
theorem i52_0 : zfetch 52 0 = some (4, .aload_n 0, 1) := by decide +kernel
theorem i52_1 : zfetch 52 1 = some (4, .getfield 9, 3) := by decide +kernel
theorem i52_4 : zfetch 52 4 = some (4, .iload_n 1, 1) := by decide +kernel
theorem i52_5 : zfetch 52 5 = some (4, .aload_n 0, 1) := by decide +kernel
theorem i52_6 : zfetch 52 6 = some (4, .getfield 15, 3) := by decide +kernel
theorem i52_9 : zfetch 52 9 = some (4, .bipush 32, 2) := by decide +kernel
theorem i52_11 : zfetch 52 11 = some (4, .if_icmp .ne 7, 3) := by decide +kernel
theorem i52_14 : zfetch 52 14 = some (4, .iload_n 2, 1) := by decide +kernel
theorem i52_15 : zfetch 52 15 = some (4, .goto 13, 3) := by decide +kernel
theorem i52_18 : zfetch 52 18 = some (4, .iload_n 2, 1) := by decide +kernel
theorem i52_19 : zfetch 52 19 = some (4, .iconst 1, 1) := by decide +kernel
theorem i52_20 : zfetch 52 20 = some (4, .aload_n 0, 1) := by decide +kernel
theorem i52_21 : zfetch 52 21 = some (4, .getfield 15, 3) := by decide +kernel
theorem i52_24 : zfetch 52 24 = some (4, .ishl, 1) := by decide +kernel
theorem i52_25 : zfetch 52 25 = some (4, .iconst 1, 1) := by decide +kernel
theorem i52_26 : zfetch 52 26 = some (4, .isub, 1) := by decide +kernel
theorem i52_27 : zfetch 52 27 = some (4, .iand, 1) := by decide +kernel
theorem i52_28 : zfetch 52 28 = some (4, .iastore, 1) := by decide +kernel
theorem i52_29 : zfetch 52 29 = some (4, .return_, 1) := by decide +kernel
theorem i53_0 : zfetch 53 0 = some (4, .iload_n 2, 1) := by decide +kernel
theorem i53_1 : zfetch 53 1 = some (4, .ifCond .lt 29, 3) := by decide +kernel
theorem i53_4 : zfetch 53 4 = some (4, .iload_n 1, 1) := by decide +kernel
theorem i53_5 : zfetch 53 5 = some (4, .ifCond .lt 25, 3) := by decide +kernel
theorem i53_8 : zfetch 53 8 = some (4, .iload_n 1, 1) := by decide +kernel
theorem i53_9 : zfetch 53 9 = some (4, .aload_n 0, 1) := by decide +kernel
theorem i53_10 : zfetch 53 10 = some (4, .getfield 19, 3) := by decide +kernel
theorem i53_13 : zfetch 53 13 = some (4, .if_icmp .gt 17, 3) := by decide +kernel
theorem i53_16 : zfetch 53 16 = some (4, .iload_n 2, 1) := by decide +kernel
theorem i53_17 : zfetch 53 17 = some (4, .aload_n 0, 1) := by decide +kernel
theorem i53_18 : zfetch 53 18 = some (4, .getfield 19, 3) := by decide +kernel
theorem i53_21 : zfetch 53 21 = some (4, .iload_n 1, 1) := by decide +kernel
theorem i53_22 : zfetch 53 22 = some (4, .isub, 1) := by decide +kernel
theorem i53_23 : zfetch 53 23 = some (4, .if_icmp .gt 7, 3) := by decide +kernel
theorem i53_26 : zfetch 53 26 = some (4, .iconst 1, 1) := by decide +kernel
theorem i53_27 : zfetch 53 27 = some (4, .goto 4, 3) := by decide +kernel
theorem i53_30 : zfetch 53 30 = some (4, .iconst 0, 1) := by decide +kernel
theorem i53_31 : zfetch 53 31 = some (4, .ireturn, 1) := by decide +kernel
theorem i54_0 : zfetch 54 0 = some (5, .aload_n 0, 1) := by decide +kernel
theorem i54_1 : zfetch 54 1 = some (5, .getfield 14, 3) := by decide +kernel
theorem i54_4 : zfetch 54 4 = some (5, .aload_n 1, 1) := by decide +kernel
theorem i54_5 : zfetch 54 5 = some (5, .getfield 14, 3) := by decide +kernel
theorem i54_8 : zfetch 54 8 = some (5, .getfield 42, 3) := by decide +kernel
theorem i54_11 : zfetch 54 11 = some (5, .aload_n 1, 1) := by decide +kernel
theorem i54_12 : zfetch 54 12 = some (5, .getfield 14, 3) := by decide +kernel
theorem i54_15 : zfetch 54 15 = some (5, .getfield 46, 3) := by decide +kernel
theorem i54_18 : zfetch 54 18 = some (5, .invokevirtual 50, 3) := by decide +kernel
theorem i54_21 : zfetch 54 21 = some (5, .aload_n 0, 1) := by decide +kernel
theorem i54_22 : zfetch 54 22 = some (5, .getfield 20, 3) := by decide +kernel
theorem i54_25 : zfetch 54 25 = some (5, .aload_n 1, 1) := by decide +kernel
theorem i54_26 : zfetch 54 26 = some (5, .getfield 20, 3) := by decide +kernel
theorem i54_29 : zfetch 54 29 = some (5, .getfield 42, 3) := by decide +kernel
theorem i54_32 : zfetch 54 32 = some (5, .aload_n 1, 1) := by decide +kernel
theorem i54_33 : zfetch 54 33 = some (5, .getfield 20, 3) := by decide +kernel
theorem i54_36 : zfetch 54 36 = some (5, .getfield 46, 3) := by decide +kernel
theorem i54_39 : zfetch 54 39 = some (5, .invokevirtual 50, 3) := by decide +kernel
theorem i54_42 : zfetch 54 42 = some (5, .aload_n 0, 1) := by decide +kernel
theorem i54_43 : zfetch 54 43 = some (5, .getfield 28, 3) := by decide +kernel
theorem i54_46 : zfetch 54 46 = some (5, .aload_n 1, 1) := by decide +kernel
theorem i54_47 : zfetch 54 47 = some (5, .getfield 28, 3) := by decide +kernel
theorem i54_50 : zfetch 54 50 = some (5, .invokevirtual 54, 3) := by decide +kernel
theorem i54_53 : zfetch 54 53 = some (5, .aload_n 0, 1) := by decide +kernel
theorem i54_54 : zfetch 54 54 = some (5, .getfield 35, 3) := by decide +kernel
theorem i54_57 : zfetch 54 57 = some (5, .aload_n 1, 1) := by decide +kernel
theorem i54_58 : zfetch 54 58 = some (5, .getfield 35, 3) := by decide +kernel
theorem i54_61 : zfetch 54 61 = some (5, .invokevirtual 58, 3) := by decide +kernel
theorem i54_64 : zfetch 54 64 = some (5, .aload_n 0, 1) := by decide +kernel
theorem i54_65 : zfetch 54 65 = some (5, .getfield 39, 3) := by decide +kernel
theorem i54_68 : zfetch 54 68 = some (5, .aload_n 1, 1) := by decide +kernel
theorem i54_69 : zfetch 54 69 = some (5, .getfield 39, 3) := by decide +kernel
theorem i54_72 : zfetch 54 72 = some (5, .invokevirtual 58, 3) := by decide +kernel
theorem i54_75 : zfetch 54 75 = some (5, .return_, 1) := by decide +kernel
theorem i55_0 : zfetch 55 0 = some (6, .iload_n 0, 1) := by decide +kernel
theorem i55_1 : zfetch 55 1 = some (6, .istore_n 2, 1) := by decide +kernel
theorem i55_2 : zfetch 55 2 = some (6, .iconst 0, 1) := by decide +kernel
theorem i55_3 : zfetch 55 3 = some (6, .istore_n 3, 1) := by decide +kernel
theorem i55_4 : zfetch 55 4 = some (6, .iload_n 3, 1) := by decide +kernel
theorem i55_5 : zfetch 55 5 = some (6, .bipush 6, 2) := by decide +kernel
theorem i55_7 : zfetch 55 7 = some (6, .if_icmp .gt 26, 3) := by decide +kernel
theorem i55_10 : zfetch 55 10 = some (6, .iload_n 2, 1) := by decide +kernel
theorem i55_11 : zfetch 55 11 = some (6, .ifCond .lt 22, 3) := by decide +kernel
theorem i55_14 : zfetch 55 14 = some (6, .iload_n 2, 1) := by decide +kernel
theorem i55_15 : zfetch 55 15 = some (6, .iload_n 1, 1) := by decide +kernel
theorem i55_16 : zfetch 55 16 = some (6, .if_icmp .ne 5, 3) := by decide +kernel
theorem i55_19 : zfetch 55 19 = some (6, .iconst 1, 1) := by decide +kernel
theorem i55_20 : zfetch 55 20 = some (6, .ireturn, 1) := by decide +kernel
theorem i55_21 : zfetch 55 21 = some (6, .getstatic 15, 3) := by decide +kernel
theorem i55_24 : zfetch 55 24 = some (6, .iload_n 2, 1) := by decide +kernel
theorem i55_25 : zfetch 55 25 = some (6, .iaload, 1) := by decide +kernel
theorem i55_26 : zfetch 55 26 = some (6, .istore_n 2, 1) := by decide +kernel
theorem i55_27 : zfetch 55 27 = some (6, .iinc 3 1, 3) := by decide +kernel
theorem i55_30 : zfetch 55 30 = some (6, .goto (-26), 3) := by decide +kernel
theorem i55_33 : zfetch 55 33 = some (6, .iconst 0, 1) := by decide +kernel
theorem i55_34 : zfetch 55 34 = some (6, .ireturn, 1) := by decide +kernel
theorem i56_0 : zfetch 56 0 = some (6, .aload_n 0, 1) := by decide +kernel
theorem i56_1 : zfetch 56 1 = some (6, .iload_n 1, 1) := by decide +kernel
theorem i56_2 : zfetch 56 2 = some (6, .putfield 18, 3) := by decide +kernel
theorem i56_5 : zfetch 56 5 = some (6, .aload_n 0, 1) := by decide +kernel
theorem i56_6 : zfetch 56 6 = some (6, .iload_n 2, 1) := by decide +kernel
theorem i56_7 : zfetch 56 7 = some (6, .putfield 22, 3) := by decide +kernel
theorem i56_10 : zfetch 56 10 = some (6, .aload_n 0, 1) := by decide +kernel
theorem i56_11 : zfetch 56 11 = some (6, .iload_n 3, 1) := by decide +kernel
theorem i56_12 : zfetch 56 12 = some (6, .putfield 25, 3) := by decide +kernel
theorem i56_15 : zfetch 56 15 = some (6, .aload_n 0, 1) := by decide +kernel
theorem i56_16 : zfetch 56 16 = some (6, .iconst 0, 1) := by decide +kernel
theorem i56_17 : zfetch 56 17 = some (6, .putfield 28, 3) := by decide +kernel
theorem i56_20 : zfetch 56 20 = some (6, .aload_n 0, 1) := by decide +kernel
theorem i56_21 : zfetch 56 21 = some (6, .iconst 0, 1) := by decide +kernel
theorem i56_22 : zfetch 56 22 = some (6, .putfield 32, 3) := by decide +kernel
theorem i56_25 : zfetch 56 25 = some (6, .aload_n 0, 1) := by decide +kernel
theorem i56_26 : zfetch 56 26 = some (6, .aload_n 0, 1) := by decide +kernel
theorem i56_27 : zfetch 56 27 = some (6, .getfield 18, 3) := by decide +kernel
theorem i56_30 : zfetch 56 30 = some (6, .iload 4, 2) := by decide +kernel
theorem i56_32 : zfetch 56 32 = some (6, .iload 5, 2) := by decide +kernel
theorem i56_34 : zfetch 56 34 = some (6, .iconst 0, 1) := by decide +kernel
theorem i56_35 : zfetch 56 35 = some (6, .invokevirtual 35, 3) := by decide +kernel
theorem i56_38 : zfetch 56 38 = some (6, .ireturn, 1) := by decide +kernel
theorem i57_0 : zfetch 57 0 = some (6, .iload_n 1, 1) := by decide +kernel
theorem i57_1 : zfetch 57 1 = some (6, .iload_n 2, 1) := by decide +kernel
theorem i57_2 : zfetch 57 2 = some (6, .invokestatic 39, 3) := by decide +kernel
theorem i57_5 : zfetch 57 5 = some (6, .istore 5, 2) := by decide +kernel
theorem i57_7 : zfetch 57 7 = some (6, .iload 4, 2) := by decide +kernel
theorem i57_9 : zfetch 57 9 = some (6, .bipush 40, 2) := by decide +kernel
theorem i57_11 : zfetch 57 11 = some (6, .if_icmp .gt 8, 3) := by decide +kernel
theorem i57_14 : zfetch 57 14 = some (6, .iload 5, 2) := by decide +kernel
theorem i57_16 : zfetch 57 16 = some (6, .ifCond .ne 5, 3) := by decide +kernel
theorem i57_19 : zfetch 57 19 = some (6, .iconst 0, 1) := by decide +kernel
theorem i57_20 : zfetch 57 20 = some (6, .ireturn, 1) := by decide +kernel
theorem i57_21 : zfetch 57 21 = some (6, .aload_n 0, 1) := by decide +kernel
theorem i57_22 : zfetch 57 22 = some (6, .getfield 32, 3) := by decide +kernel
theorem i57_25 : zfetch 57 25 = some (6, .bipush 30, 2) := by decide +kernel
theorem i57_27 : zfetch 57 27 = some (6, .if_icmp .ge 24, 3) := by decide +kernel
theorem i57_30 : zfetch 57 30 = some (6, .aload_n 0, 1) := by decide +kernel
theorem i57_31 : zfetch 57 31 = some (6, .getfield 11, 3) := by decide +kernel
theorem i57_34 : zfetch 57 34 = some (6, .aload_n 0, 1) := by decide +kernel
theorem i57_35 : zfetch 57 35 = some (6, .getfield 32, 3) := by decide +kernel
theorem i57_38 : zfetch 57 38 = some (6, .iload 5, 2) := by decide +kernel
theorem i57_40 : zfetch 57 40 = some (6, .iastore, 1) := by decide +kernel
theorem i57_41 : zfetch 57 41 = some (6, .aload_n 0, 1) := by decide +kernel
theorem i57_42 : zfetch 57 42 = some (6, .dup, 1) := by decide +kernel
theorem i57_43 : zfetch 57 43 = some (6, .getfield 32, 3) := by decide +kernel
theorem i57_46 : zfetch 57 46 = some (6, .iconst 1, 1) := by decide +kernel
theorem i57_47 : zfetch 57 47 = some (6, .iadd, 1) := by decide +kernel
theorem i57_48 : zfetch 57 48 = some (6, .putfield 32, 3) := by decide +kernel
theorem i57_51 : zfetch 57 51 = some (6, .iload 5, 2) := by decide +kernel
theorem i57_53 : zfetch 57 53 = some (6, .bipush 20, 2) := by decide +kernel
theorem i57_55 : zfetch 57 55 = some (6, .if_icmp .ge 17, 3) := by decide +kernel
theorem i57_58 : zfetch 57 58 = some (6, .aload_n 0, 1) := by decide +kernel
theorem i57_59 : zfetch 57 59 = some (6, .iload 5, 2) := by decide +kernel
theorem i57_61 : zfetch 57 61 = some (6, .iload_n 3, 1) := by decide +kernel
theorem i57_62 : zfetch 57 62 = some (6, .iload 4, 2) := by decide +kernel
theorem i57_64 : zfetch 57 64 = some (6, .iconst 1, 1) := by decide +kernel
theorem i57_65 : zfetch 57 65 = some (6, .iadd, 1) := by decide +kernel
theorem i57_66 : zfetch 57 66 = some (6, .invokevirtual 43, 3) := by decide +kernel
theorem i57_69 : zfetch 57 69 = some (6, .goto 14, 3) := by decide +kernel
theorem i57_72 : zfetch 57 72 = some (6, .aload_n 0, 1) := by decide +kernel
theorem i57_73 : zfetch 57 73 = some (6, .iload 5, 2) := by decide +kernel
theorem i57_75 : zfetch 57 75 = some (6, .iload_n 3, 1) := by decide +kernel
theorem i57_76 : zfetch 57 76 = some (6, .iload 4, 2) := by decide +kernel
theorem i57_78 : zfetch 57 78 = some (6, .iconst 1, 1) := by decide +kernel
theorem i57_79 : zfetch 57 79 = some (6, .iadd, 1) := by decide +kernel
theorem i57_80 : zfetch 57 80 = some (6, .invokevirtual 47, 3) := by decide +kernel
theorem i57_83 : zfetch 57 83 = some (6, .ireturn, 1) := by decide +kernel
theorem i58_0 : zfetch 58 0 = some (6, .iload_n 1, 1) := by decide +kernel
theorem i58_1 : zfetch 58 1 = some (6, .tableswitch 65 10 12 #[27, 34, 48], 27) := by decide +kernel
theorem i58_28 : zfetch 58 28 = some (6, .iload_n 2, 1) := by decide +kernel
theorem i58_29 : zfetch 58 29 = some (6, .aload_n 0, 1) := by decide +kernel
theorem i58_30 : zfetch 58 30 = some (6, .getfield 22, 3) := by decide +kernel
theorem i58_33 : zfetch 58 33 = some (6, .iadd, 1) := by decide +kernel
theorem i58_34 : zfetch 58 34 = some (6, .ireturn, 1) := by decide +kernel
theorem i58_35 : zfetch 58 35 = some (6, .aload_n 0, 1) := by decide +kernel
theorem i58_36 : zfetch 58 36 = some (6, .aload_n 0, 1) := by decide +kernel
theorem i58_37 : zfetch 58 37 = some (6, .getfield 18, 3) := by decide +kernel
theorem i58_40 : zfetch 58 40 = some (6, .iconst 0, 1) := by decide +kernel
theorem i58_41 : zfetch 58 41 = some (6, .iload_n 2, 1) := by decide +kernel
theorem i58_42 : zfetch 58 42 = some (6, .iload_n 3, 1) := by decide +kernel
theorem i58_43 : zfetch 58 43 = some (6, .invokevirtual 35, 3) := by decide +kernel
theorem i58_46 : zfetch 58 46 = some (6, .iconst 2, 1) := by decide +kernel
theorem i58_47 : zfetch 58 47 = some (6, .imul, 1) := by decide +kernel
theorem i58_48 : zfetch 58 48 = some (6, .ireturn, 1) := by decide +kernel
theorem i58_49 : zfetch 58 49 = some (6, .aload_n 0, 1) := by decide +kernel
theorem i58_50 : zfetch 58 50 = some (6, .aload_n 0, 1) := by decide +kernel
theorem i58_51 : zfetch 58 51 = some (6, .getfield 18, 3) := by decide +kernel
theorem i58_54 : zfetch 58 54 = some (6, .iconst 1, 1) := by decide +kernel
theorem i58_55 : zfetch 58 55 = some (6, .iload_n 2, 1) := by decide +kernel
theorem i58_56 : zfetch 58 56 = some (6, .iload_n 3, 1) := by decide +kernel
theorem i58_57 : zfetch 58 57 = some (6, .invokevirtual 35, 3) := by decide +kernel
theorem i58_60 : zfetch 58 60 = some (6, .aload_n 0, 1) := by decide +kernel
theorem i58_61 : zfetch 58 61 = some (6, .getfield 25, 3) := by decide +kernel
theorem i58_64 : zfetch 58 64 = some (6, .isub, 1) := by decide +kernel
theorem i58_65 : zfetch 58 65 = some (6, .ireturn, 1) := by decide +kernel
theorem i58_66 : zfetch 58 66 = some (6, .aload_n 0, 1) := by decide +kernel
theorem i58_67 : zfetch 58 67 = some (6, .getfield 25, 3) := by decide +kernel
theorem i58_70 : zfetch 58 70 = some (6, .aload_n 0, 1) := by decide +kernel
theorem i58_71 : zfetch 58 71 = some (6, .getfield 22, 3) := by decide +kernel
theorem i58_74 : zfetch 58 74 = some (6, .if_icmp .ne 10, 3) := by decide +kernel
theorem i58_77 : zfetch 58 77 = some (6, .aload_n 0, 1) := by decide +kernel
theorem i58_78 : zfetch 58 78 = some (6, .iconst 1, 1) := by decide +kernel
theorem i58_79 : zfetch 58 79 = some (6, .putfield 28, 3) := by decide +kernel
theorem i58_82 : zfetch 58 82 = some (6, .iconst 0, 1) := by decide +kernel
theorem i58_83 : zfetch 58 83 = some (6, .ireturn, 1) := by decide +kernel
theorem i58_84 : zfetch 58 84 = some (6, .iload_n 2, 1) := by decide +kernel
theorem i58_85 : zfetch 58 85 = some (6, .aload_n 0, 1) := by decide +kernel
theorem i58_86 : zfetch 58 86 = some (6, .getfield 25, 3) := by decide +kernel
theorem i58_89 : zfetch 58 89 = some (6, .aload_n 0, 1) := by decide +kernel
theorem i58_90 : zfetch 58 90 = some (6, .getfield 22, 3) := by decide +kernel
theorem i58_93 : zfetch 58 93 = some (6, .isub, 1) := by decide +kernel
theorem i58_94 : zfetch 58 94 = some (6, .idiv, 1) := by decide +kernel
theorem i58_95 : zfetch 58 95 = some (6, .ireturn, 1) := by decide +kernel
theorem i59_0 : zfetch 59 0 = some (6, .getstatic 15, 3) := by decide +kernel
theorem i59_3 : zfetch 59 3 = some (6, .iload_n 1, 1) := by decide +kernel
theorem i59_4 : zfetch 59 4 = some (6, .bipush 10, 2) := by decide +kernel
theorem i59_6 : zfetch 59 6 = some (6, .idiv, 1) := by decide +kernel
theorem i59_7 : zfetch 59 7 = some (6, .iconst 1, 1) := by decide +kernel
theorem i59_8 : zfetch 59 8 = some (6, .isub, 1) := by decide +kernel
theorem i59_9 : zfetch 59 9 = some (6, .iaload, 1) := by decide +kernel
theorem i59_10 : zfetch 59 10 = some (6, .istore 4, 2) := by decide +kernel
theorem i59_12 : zfetch 59 12 = some (6, .iload_n 1, 1) := by decide +kernel
theorem i59_13 : zfetch 59 13 = some (6, .lookupswitch 190 #[(20, 75), (21, 87), (30, 124), (40, 136), (50, 148), (51, 160), (60, 175), (70, 187)], 75) := by decide +kernel
theorem i59_88 : zfetch 59 88 = some (6, .aload_n 0, 1) := by decide +kernel
theorem i59_89 : zfetch 59 89 = some (6, .iload 4, 2) := by decide +kernel
theorem i59_91 : zfetch 59 91 = some (6, .iconst 0, 1) := by decide +kernel
theorem i59_92 : zfetch 59 92 = some (6, .iload_n 2, 1) := by decide +kernel
theorem i59_93 : zfetch 59 93 = some (6, .iload_n 3, 1) := by decide +kernel
theorem i59_94 : zfetch 59 94 = some (6, .invokevirtual 35, 3) := by decide +kernel
theorem i59_97 : zfetch 59 97 = some (6, .iconst 4, 1) := by decide +kernel
theorem i59_98 : zfetch 59 98 = some (6, .isub, 1) := by decide +kernel
theorem i59_99 : zfetch 59 99 = some (6, .ireturn, 1) := by decide +kernel
theorem i59_100 : zfetch 59 100 = some (6, .aload_n 0, 1) := by decide +kernel
theorem i59_101 : zfetch 59 101 = some (6, .iload 4, 2) := by decide +kernel
theorem i59_103 : zfetch 59 103 = some (6, .iconst 3, 1) := by decide +kernel
theorem i59_104 : zfetch 59 104 = some (6, .iload_n 2, 1) := by decide +kernel
theorem i59_105 : zfetch 59 105 = some (6, .iload_n 3, 1) := by decide +kernel
theorem i59_106 : zfetch 59 106 = some (6, .invokevirtual 35, 3) := by decide +kernel
theorem i59_109 : zfetch 59 109 = some (6, .istore 5, 2) := by decide +kernel
theorem i59_111 : zfetch 59 111 = some (6, .aload_n 0, 1) := by decide +kernel
theorem i59_112 : zfetch 59 112 = some (6, .getfield 28, 3) := by decide +kernel
theorem i59_115 : zfetch 59 115 = some (6, .ifCond .eq 7, 3) := by decide +kernel
theorem i59_118 : zfetch 59 118 = some (6, .iconst 0, 1) := by decide +kernel
theorem i59_119 : zfetch 59 119 = some (6, .goto 17, 3) := by decide +kernel
theorem i59_122 : zfetch 59 122 = some (6, .iload 5, 2) := by decide +kernel
theorem i59_124 : zfetch 59 124 = some (6, .aload_n 0, 1) := by decide +kernel
theorem i59_125 : zfetch 59 125 = some (6, .aload_n 0, 1) := by decide +kernel
theorem i59_126 : zfetch 59 126 = some (6, .getfield 18, 3) := by decide +kernel
theorem i59_129 : zfetch 59 129 = some (6, .iconst 1, 1) := by decide +kernel
theorem i59_130 : zfetch 59 130 = some (6, .iconst 1, 1) := by decide +kernel
theorem i59_131 : zfetch 59 131 = some (6, .iload_n 3, 1) := by decide +kernel
theorem i59_132 : zfetch 59 132 = some (6, .invokevirtual 35, 3) := by decide +kernel
theorem i59_135 : zfetch 59 135 = some (6, .iadd, 1) := by decide +kernel
theorem i59_136 : zfetch 59 136 = some (6, .ireturn, 1) := by decide +kernel
theorem i59_137 : zfetch 59 137 = some (6, .iconst 0, 1) := by decide +kernel
theorem i59_138 : zfetch 59 138 = some (6, .aload_n 0, 1) := by decide +kernel
theorem i59_139 : zfetch 59 139 = some (6, .iload 4, 2) := by decide +kernel
theorem i59_141 : zfetch 59 141 = some (6, .iconst 1, 1) := by decide +kernel
theorem i59_142 : zfetch 59 142 = some (6, .iload_n 2, 1) := by decide +kernel
theorem i59_143 : zfetch 59 143 = some (6, .iload_n 3, 1) := by decide +kernel
theorem i59_144 : zfetch 59 144 = some (6, .invokevirtual 35, 3) := by decide +kernel
theorem i59_147 : zfetch 59 147 = some (6, .isub, 1) := by decide +kernel
theorem i59_148 : zfetch 59 148 = some (6, .ireturn, 1) := by decide +kernel
theorem i59_149 : zfetch 59 149 = some (6, .aload_n 0, 1) := by decide +kernel
theorem i59_150 : zfetch 59 150 = some (6, .iload 4, 2) := by decide +kernel
theorem i59_152 : zfetch 59 152 = some (6, .iconst 2, 1) := by decide +kernel
theorem i59_153 : zfetch 59 153 = some (6, .iload_n 2, 1) := by decide +kernel
theorem i59_154 : zfetch 59 154 = some (6, .iconst 2, 1) := by decide +kernel
theorem i59_155 : zfetch 59 155 = some (6, .idiv, 1) := by decide +kernel
theorem i59_156 : zfetch 59 156 = some (6, .iload_n 3, 1) := by decide +kernel
theorem i59_157 : zfetch 59 157 = some (6, .invokevirtual 35, 3) := by decide +kernel
theorem i59_160 : zfetch 59 160 = some (6, .ireturn, 1) := by decide +kernel
theorem i59_161 : zfetch 59 161 = some (6, .aload_n 0, 1) := by decide +kernel
theorem i59_162 : zfetch 59 162 = some (6, .iload 4, 2) := by decide +kernel
theorem i59_164 : zfetch 59 164 = some (6, .iconst 0, 1) := by decide +kernel
theorem i59_165 : zfetch 59 165 = some (6, .iload_n 2, 1) := by decide +kernel
theorem i59_166 : zfetch 59 166 = some (6, .iload_n 3, 1) := by decide +kernel
theorem i59_167 : zfetch 59 167 = some (6, .invokevirtual 35, 3) := by decide +kernel
theorem i59_170 : zfetch 59 170 = some (6, .iconst 3, 1) := by decide +kernel
theorem i59_171 : zfetch 59 171 = some (6, .imul, 1) := by decide +kernel
theorem i59_172 : zfetch 59 172 = some (6, .ireturn, 1) := by decide +kernel
theorem i59_173 : zfetch 59 173 = some (6, .aload_n 0, 1) := by decide +kernel
theorem i59_174 : zfetch 59 174 = some (6, .iload 4, 2) := by decide +kernel
theorem i59_176 : zfetch 59 176 = some (6, .iconst 2, 1) := by decide +kernel
theorem i59_177 : zfetch 59 177 = some (6, .iload_n 2, 1) := by decide +kernel
theorem i59_178 : zfetch 59 178 = some (6, .iload_n 3, 1) := by decide +kernel
theorem i59_179 : zfetch 59 179 = some (6, .invokevirtual 35, 3) := by decide +kernel
theorem i59_182 : zfetch 59 182 = some (6, .aload_n 0, 1) := by decide +kernel
theorem i59_183 : zfetch 59 183 = some (6, .getfield 22, 3) := by decide +kernel
theorem i59_186 : zfetch 59 186 = some (6, .ixor, 1) := by decide +kernel
theorem i59_187 : zfetch 59 187 = some (6, .ireturn, 1) := by decide +kernel
theorem i59_188 : zfetch 59 188 = some (6, .aload_n 0, 1) := by decide +kernel
theorem i59_189 : zfetch 59 189 = some (6, .iload 4, 2) := by decide +kernel
theorem i59_191 : zfetch 59 191 = some (6, .iconst 1, 1) := by decide +kernel
theorem i59_192 : zfetch 59 192 = some (6, .iload_n 2, 1) := by decide +kernel
theorem i59_193 : zfetch 59 193 = some (6, .iconst 1, 1) := by decide +kernel
theorem i59_194 : zfetch 59 194 = some (6, .iadd, 1) := by decide +kernel
theorem i59_195 : zfetch 59 195 = some (6, .iload_n 3, 1) := by decide +kernel
theorem i59_196 : zfetch 59 196 = some (6, .invokevirtual 35, 3) := by decide +kernel
theorem i59_199 : zfetch 59 199 = some (6, .ireturn, 1) := by decide +kernel
theorem i59_200 : zfetch 59 200 = some (6, .bipush 9, 2) := by decide +kernel
theorem i59_202 : zfetch 59 202 = some (6, .ireturn, 1) := by decide +kernel
theorem i59_203 : zfetch 59 203 = some (6, .aload_n 0, 1) := by decide +kernel
theorem i59_204 : zfetch 59 204 = some (6, .iload 4, 2) := by decide +kernel
theorem i59_206 : zfetch 59 206 = some (6, .iconst 1, 1) := by decide +kernel
theorem i59_207 : zfetch 59 207 = some (6, .iload_n 2, 1) := by decide +kernel
theorem i59_208 : zfetch 59 208 = some (6, .iload_n 3, 1) := by decide +kernel
theorem i59_209 : zfetch 59 209 = some (6, .invokevirtual 35, 3) := by decide +kernel
theorem i59_212 : zfetch 59 212 = some (6, .aload_n 0, 1) := by decide +kernel
theorem i59_213 : zfetch 59 213 = some (6, .getfield 25, 3) := by decide +kernel
theorem i59_216 : zfetch 59 216 = some (6, .iadd, 1) := by decide +kernel
theorem i59_217 : zfetch 59 217 = some (6, .ireturn, 1) := by decide +kernel
theorem i60_0 : zfetch 60 0 = some (6, .iload_n 0, 1) := by decide +kernel
theorem i60_1 : zfetch 60 1 = some (6, .istore_n 2, 1) := by decide +kernel
theorem i60_2 : zfetch 60 2 = some (6, .iconst 0, 1) := by decide +kernel
theorem i60_3 : zfetch 60 3 = some (6, .istore_n 3, 1) := by decide +kernel
theorem i60_4 : zfetch 60 4 = some (6, .iload_n 3, 1) := by decide +kernel
theorem i60_5 : zfetch 60 5 = some (6, .bipush 6, 2) := by decide +kernel
theorem i60_7 : zfetch 60 7 = some (6, .if_icmp .gt 38, 3) := by decide +kernel
theorem i60_10 : zfetch 60 10 = some (6, .iload_n 2, 1) := by decide +kernel
theorem i60_11 : zfetch 60 11 = some (6, .ifCond .lt 34, 3) := by decide +kernel
theorem i60_14 : zfetch 60 14 = some (6, .getstatic 50, 3) := by decide +kernel
theorem i60_17 : zfetch 60 17 = some (6, .iconst 4, 1) := by decide +kernel
theorem i60_18 : zfetch 60 18 = some (6, .iload_n 2, 1) := by decide +kernel
theorem i60_19 : zfetch 60 19 = some (6, .imul, 1) := by decide +kernel
theorem i60_20 : zfetch 60 20 = some (6, .iload_n 1, 1) := by decide +kernel
theorem i60_21 : zfetch 60 21 = some (6, .iadd, 1) := by decide +kernel
theorem i60_22 : zfetch 60 22 = some (6, .iaload, 1) := by decide +kernel
theorem i60_23 : zfetch 60 23 = some (6, .istore 4, 2) := by decide +kernel
theorem i60_25 : zfetch 60 25 = some (6, .iload 4, 2) := by decide +kernel
theorem i60_27 : zfetch 60 27 = some (6, .ifCond .eq 6, 3) := by decide +kernel
theorem i60_30 : zfetch 60 30 = some (6, .iload 4, 2) := by decide +kernel
theorem i60_32 : zfetch 60 32 = some (6, .ireturn, 1) := by decide +kernel
theorem i60_33 : zfetch 60 33 = some (6, .getstatic 15, 3) := by decide +kernel
theorem i60_36 : zfetch 60 36 = some (6, .iload_n 2, 1) := by decide +kernel
theorem i60_37 : zfetch 60 37 = some (6, .iaload, 1) := by decide +kernel
theorem i60_38 : zfetch 60 38 = some (6, .istore_n 2, 1) := by decide +kernel
theorem i60_39 : zfetch 60 39 = some (6, .iinc 3 1, 3) := by decide +kernel
theorem i60_42 : zfetch 60 42 = some (6, .goto (-38), 3) := by decide +kernel
theorem i60_45 : zfetch 60 45 = some (6, .iconst 0, 1) := by decide +kernel
theorem i60_46 : zfetch 60 46 = some (6, .ireturn, 1) := by decide +kernel
theorem i61_0 : zfetch 61 0 = some (7, .iload_n 3, 1) := by decide +kernel
theorem i61_1 : zfetch 61 1 = some (7, .bipush 63, 2) := by decide +kernel
theorem i61_3 : zfetch 61 3 = some (7, .invokestatic 64, 3) := by decide +kernel
theorem i61_6 : zfetch 61 6 = some (7, .ifCond .eq 17, 3) := by decide +kernel
theorem i61_9 : zfetch 61 9 = some (7, .iload 4, 2) := by decide +kernel
theorem i61_11 : zfetch 61 11 = some (7, .bipush 99, 2) := by decide +kernel
theorem i61_13 : zfetch 61 13 = some (7, .invokestatic 64, 3) := by decide +kernel
theorem i61_16 : zfetch 61 16 = some (7, .ifCond .eq 7, 3) := by decide +kernel
theorem i61_19 : zfetch 61 19 = some (7, .iconst 1, 1) := by decide +kernel
theorem i61_20 : zfetch 61 20 = some (7, .goto 4, 3) := by decide +kernel
theorem i61_23 : zfetch 61 23 = some (7, .iconst 0, 1) := by decide +kernel
theorem i61_24 : zfetch 61 24 = some (7, .istore 5, 2) := by decide +kernel
theorem i61_26 : zfetch 61 26 = some (7, .iload_n 1, 1) := by decide +kernel
theorem i61_27 : zfetch 61 27 = some (7, .bipush 69, 2) := by decide +kernel
theorem i61_29 : zfetch 61 29 = some (7, .invokestatic 64, 3) := by decide +kernel
theorem i61_32 : zfetch 61 32 = some (7, .ifCond .eq 21, 3) := by decide +kernel
theorem i61_35 : zfetch 61 35 = some (7, .iload_n 2, 1) := by decide +kernel
theorem i61_36 : zfetch 61 36 = some (7, .iconst (-1), 1) := by decide +kernel
theorem i61_37 : zfetch 61 37 = some (7, .if_icmp .eq 11, 3) := by decide +kernel
theorem i61_40 : zfetch 61 40 = some (7, .aload_n 0, 1) := by decide +kernel
theorem i61_41 : zfetch 61 41 = some (7, .iload_n 2, 1) := by decide +kernel
theorem i61_42 : zfetch 61 42 = some (7, .invokevirtual 68, 3) := by decide +kernel
theorem i61_45 : zfetch 61 45 = some (7, .ifCond .eq 8, 3) := by decide +kernel
theorem i61_48 : zfetch 61 48 = some (7, .iload 5, 2) := by decide +kernel
theorem i61_50 : zfetch 61 50 = some (7, .ifCond .ne 9, 3) := by decide +kernel
theorem i61_53 : zfetch 61 53 = some (7, .aload_n 0, 1) := by decide +kernel
theorem i61_54 : zfetch 61 54 = some (7, .iconst 1, 1) := by decide +kernel
theorem i61_55 : zfetch 61 55 = some (7, .invokevirtual 72, 3) := by decide +kernel
theorem i61_58 : zfetch 61 58 = some (7, .ireturn, 1) := by decide +kernel
theorem i61_59 : zfetch 61 59 = some (7, .aload_n 0, 1) := by decide +kernel
theorem i61_60 : zfetch 61 60 = some (7, .getfield 47, 3) := by decide +kernel
theorem i61_63 : zfetch 61 63 = some (7, .getfield 76, 3) := by decide +kernel
theorem i61_66 : zfetch 61 66 = some (7, .bipush 8, 2) := by decide +kernel
theorem i61_68 : zfetch 61 68 = some (7, .if_icmp .lt 9, 3) := by decide +kernel
theorem i61_71 : zfetch 61 71 = some (7, .aload_n 0, 1) := by decide +kernel
theorem i61_72 : zfetch 61 72 = some (7, .iconst 4, 1) := by decide +kernel
theorem i61_73 : zfetch 61 73 = some (7, .invokevirtual 72, 3) := by decide +kernel
theorem i61_76 : zfetch 61 76 = some (7, .ireturn, 1) := by decide +kernel
theorem i61_77 : zfetch 61 77 = some (7, .aload_n 0, 1) := by decide +kernel
theorem i61_78 : zfetch 61 78 = some (7, .getfield 47, 3) := by decide +kernel
theorem i61_81 : zfetch 61 81 = some (7, .iload_n 1, 1) := by decide +kernel
theorem i61_82 : zfetch 61 82 = some (7, .iload_n 2, 1) := by decide +kernel
theorem i61_83 : zfetch 61 83 = some (7, .iload_n 3, 1) := by decide +kernel
theorem i61_84 : zfetch 61 84 = some (7, .iload 4, 2) := by decide +kernel
theorem i61_86 : zfetch 61 86 = some (7, .invokevirtual 80, 3) := by decide +kernel
theorem i61_89 : zfetch 61 89 = some (7, .ireturn, 1) := by decide +kernel
theorem i62_0 : zfetch 62 0 = some (7, .aload_n 0, 1) := by decide +kernel
theorem i62_1 : zfetch 62 1 = some (7, .iload_n 1, 1) := by decide +kernel
theorem i62_2 : zfetch 62 2 = some (7, .invokevirtual 68, 3) := by decide +kernel
theorem i62_5 : zfetch 62 5 = some (7, .ifCond .ne 9, 3) := by decide +kernel
theorem i62_8 : zfetch 62 8 = some (7, .aload_n 0, 1) := by decide +kernel
theorem i62_9 : zfetch 62 9 = some (7, .iconst 1, 1) := by decide +kernel
theorem i62_10 : zfetch 62 10 = some (7, .invokevirtual 72, 3) := by decide +kernel
theorem i62_13 : zfetch 62 13 = some (7, .ireturn, 1) := by decide +kernel
theorem i62_14 : zfetch 62 14 = some (7, .iload_n 2, 1) := by decide +kernel
theorem i62_15 : zfetch 62 15 = some (7, .tableswitch 136 0 8 #[49, 59, 69, 79, 89, 99, 109, 118, 127], 49) := by decide +kernel
theorem i62_64 : zfetch 62 64 = some (7, .aload_n 0, 1) := by decide +kernel
theorem i62_65 : zfetch 62 65 = some (7, .getfield 47, 3) := by decide +kernel
theorem i62_68 : zfetch 62 68 = some (7, .getfield 84, 3) := by decide +kernel
theorem i62_71 : zfetch 62 71 = some (7, .iload_n 1, 1) := by decide +kernel
theorem i62_72 : zfetch 62 72 = some (7, .iaload, 1) := by decide +kernel
theorem i62_73 : zfetch 62 73 = some (7, .ireturn, 1) := by decide +kernel
theorem i62_74 : zfetch 62 74 = some (7, .aload_n 0, 1) := by decide +kernel
theorem i62_75 : zfetch 62 75 = some (7, .getfield 47, 3) := by decide +kernel
theorem i62_78 : zfetch 62 78 = some (7, .getfield 87, 3) := by decide +kernel
theorem i62_81 : zfetch 62 81 = some (7, .iload_n 1, 1) := by decide +kernel
theorem i62_82 : zfetch 62 82 = some (7, .iaload, 1) := by decide +kernel
theorem i62_83 : zfetch 62 83 = some (7, .ireturn, 1) := by decide +kernel
theorem i62_84 : zfetch 62 84 = some (7, .aload_n 0, 1) := by decide +kernel
theorem i62_85 : zfetch 62 85 = some (7, .getfield 47, 3) := by decide +kernel
theorem i62_88 : zfetch 62 88 = some (7, .getfield 90, 3) := by decide +kernel
theorem i62_91 : zfetch 62 91 = some (7, .iload_n 1, 1) := by decide +kernel
theorem i62_92 : zfetch 62 92 = some (7, .iaload, 1) := by decide +kernel
theorem i62_93 : zfetch 62 93 = some (7, .ireturn, 1) := by decide +kernel
theorem i62_94 : zfetch 62 94 = some (7, .aload_n 0, 1) := by decide +kernel
theorem i62_95 : zfetch 62 95 = some (7, .getfield 47, 3) := by decide +kernel
theorem i62_98 : zfetch 62 98 = some (7, .getfield 93, 3) := by decide +kernel
theorem i62_101 : zfetch 62 101 = some (7, .iload_n 1, 1) := by decide +kernel
theorem i62_102 : zfetch 62 102 = some (7, .iaload, 1) := by decide +kernel
theorem i62_103 : zfetch 62 103 = some (7, .ireturn, 1) := by decide +kernel
theorem i62_104 : zfetch 62 104 = some (7, .aload_n 0, 1) := by decide +kernel
theorem i62_105 : zfetch 62 105 = some (7, .getfield 47, 3) := by decide +kernel
theorem i62_108 : zfetch 62 108 = some (7, .getfield 96, 3) := by decide +kernel
theorem i62_111 : zfetch 62 111 = some (7, .iload_n 1, 1) := by decide +kernel
theorem i62_112 : zfetch 62 112 = some (7, .iaload, 1) := by decide +kernel
theorem i62_113 : zfetch 62 113 = some (7, .ireturn, 1) := by decide +kernel
theorem i62_114 : zfetch 62 114 = some (7, .aload_n 0, 1) := by decide +kernel
theorem i62_115 : zfetch 62 115 = some (7, .getfield 47, 3) := by decide +kernel
theorem i62_118 : zfetch 62 118 = some (7, .getfield 99, 3) := by decide +kernel
theorem i62_121 : zfetch 62 121 = some (7, .iload_n 1, 1) := by decide +kernel
theorem i62_122 : zfetch 62 122 = some (7, .iaload, 1) := by decide +kernel
theorem i62_123 : zfetch 62 123 = some (7, .ireturn, 1) := by decide +kernel
theorem i62_124 : zfetch 62 124 = some (7, .aload_n 0, 1) := by decide +kernel
theorem i62_125 : zfetch 62 125 = some (7, .getfield 47, 3) := by decide +kernel
theorem i62_128 : zfetch 62 128 = some (7, .iload_n 1, 1) := by decide +kernel
theorem i62_129 : zfetch 62 129 = some (7, .invokevirtual 102, 3) := by decide +kernel
theorem i62_132 : zfetch 62 132 = some (7, .ireturn, 1) := by decide +kernel
theorem i62_133 : zfetch 62 133 = some (7, .aload_n 0, 1) := by decide +kernel
theorem i62_134 : zfetch 62 134 = some (7, .getfield 47, 3) := by decide +kernel
theorem i62_137 : zfetch 62 137 = some (7, .iload_n 1, 1) := by decide +kernel
theorem i62_138 : zfetch 62 138 = some (7, .invokevirtual 105, 3) := by decide +kernel
theorem i62_141 : zfetch 62 141 = some (7, .ireturn, 1) := by decide +kernel
theorem i62_142 : zfetch 62 142 = some (7, .aload_n 0, 1) := by decide +kernel
theorem i62_143 : zfetch 62 143 = some (7, .getfield 47, 3) := by decide +kernel
theorem i62_146 : zfetch 62 146 = some (7, .iload_n 1, 1) := by decide +kernel
theorem i62_147 : zfetch 62 147 = some (7, .invokevirtual 108, 3) := by decide +kernel
theorem i62_150 : zfetch 62 150 = some (7, .ireturn, 1) := by decide +kernel
theorem i62_151 : zfetch 62 151 = some (7, .aload_n 0, 1) := by decide +kernel
theorem i62_152 : zfetch 62 152 = some (7, .iconst 1, 1) := by decide +kernel
theorem i62_153 : zfetch 62 153 = some (7, .invokevirtual 72, 3) := by decide +kernel
theorem i62_156 : zfetch 62 156 = some (7, .ireturn, 1) := by decide +kernel
theorem i63_0 : zfetch 63 0 = some (7, .aload_n 0, 1) := by decide +kernel
theorem i63_1 : zfetch 63 1 = some (7, .iload_n 1, 1) := by decide +kernel
theorem i63_2 : zfetch 63 2 = some (7, .invokevirtual 68, 3) := by decide +kernel
theorem i63_5 : zfetch 63 5 = some (7, .ifCond .eq 12, 3) := by decide +kernel
theorem i63_8 : zfetch 63 8 = some (7, .iload_n 2, 1) := by decide +kernel
theorem i63_9 : zfetch 63 9 = some (7, .bipush 69, 2) := by decide +kernel
theorem i63_11 : zfetch 63 11 = some (7, .invokestatic 64, 3) := by decide +kernel
theorem i63_14 : zfetch 63 14 = some (7, .ifCond .ne 9, 3) := by decide +kernel
theorem i63_17 : zfetch 63 17 = some (7, .aload_n 0, 1) := by decide +kernel
theorem i63_18 : zfetch 63 18 = some (7, .iconst 1, 1) := by decide +kernel
theorem i63_19 : zfetch 63 19 = some (7, .invokevirtual 72, 3) := by decide +kernel
theorem i63_22 : zfetch 63 22 = some (7, .ireturn, 1) := by decide +kernel
theorem i63_23 : zfetch 63 23 = some (7, .aload_n 0, 1) := by decide +kernel
theorem i63_24 : zfetch 63 24 = some (7, .getfield 47, 3) := by decide +kernel
theorem i63_27 : zfetch 63 27 = some (7, .getfield 84, 3) := by decide +kernel
theorem i63_30 : zfetch 63 30 = some (7, .iload_n 1, 1) := by decide +kernel
theorem i63_31 : zfetch 63 31 = some (7, .iaload, 1) := by decide +kernel
theorem i63_32 : zfetch 63 32 = some (7, .istore_n 3, 1) := by decide +kernel
theorem i63_33 : zfetch 63 33 = some (7, .aload_n 0, 1) := by decide +kernel
theorem i63_34 : zfetch 63 34 = some (7, .getfield 47, 3) := by decide +kernel
theorem i63_37 : zfetch 63 37 = some (7, .getfield 84, 3) := by decide +kernel
theorem i63_40 : zfetch 63 40 = some (7, .iload_n 1, 1) := by decide +kernel
