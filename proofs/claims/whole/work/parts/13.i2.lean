theorem i134_117 : zfetch 134 117 = some (8, .iconst 1, 1) := by decide +kernel
theorem i134_118 : zfetch 134 118 = some (8, .iadd, 1) := by decide +kernel
theorem i134_119 : zfetch 134 119 = some (8, .iload 4, 2) := by decide +kernel
theorem i134_121 : zfetch 134 121 = some (8, .iadd, 1) := by decide +kernel
theorem i134_122 : zfetch 134 122 = some (8, .aload_n 0, 1) := by decide +kernel
theorem i134_123 : zfetch 134 123 = some (8, .getfield 25, 3) := by decide +kernel
theorem i134_126 : zfetch 134 126 = some (8, .iload 4, 2) := by decide +kernel
theorem i134_128 : zfetch 134 128 = some (8, .iaload, 1) := by decide +kernel
theorem i134_129 : zfetch 134 129 = some (8, .iastore, 1) := by decide +kernel
theorem i134_130 : zfetch 134 130 = some (8, .iinc 4 1, 3) := by decide +kernel
theorem i134_133 : zfetch 134 133 = some (8, .goto (-32), 3) := by decide +kernel
theorem i134_136 : zfetch 134 136 = some (8, .iconst 1, 1) := by decide +kernel
theorem i134_137 : zfetch 134 137 = some (8, .ireturn, 1) := by decide +kernel
theorem i135_0 : zfetch 135 0 = some (8, .iload_n 1, 1) := by decide +kernel
theorem i135_1 : zfetch 135 1 = some (8, .iconst 0, 1) := by decide +kernel
theorem i135_2 : zfetch 135 2 = some (8, .iconst 1, 1) := by decide +kernel
theorem i135_3 : zfetch 135 3 = some (8, .invokestatic 50, 3) := by decide +kernel
theorem i135_6 : zfetch 135 6 = some (8, .ifCond .ne 9, 3) := by decide +kernel
theorem i135_9 : zfetch 135 9 = some (8, .aload_n 0, 1) := by decide +kernel
theorem i135_10 : zfetch 135 10 = some (8, .iconst 1, 1) := by decide +kernel
theorem i135_11 : zfetch 135 11 = some (8, .invokevirtual 58, 3) := by decide +kernel
theorem i135_14 : zfetch 135 14 = some (8, .ireturn, 1) := by decide +kernel
theorem i135_15 : zfetch 135 15 = some (8, .aload_n 0, 1) := by decide +kernel
theorem i135_16 : zfetch 135 16 = some (8, .iload_n 1, 1) := by decide +kernel
theorem i135_17 : zfetch 135 17 = some (8, .invokevirtual 111, 3) := by decide +kernel
theorem i135_20 : zfetch 135 20 = some (8, .ifCond .eq 7, 3) := by decide +kernel
theorem i135_23 : zfetch 135 23 = some (8, .iconst 1, 1) := by decide +kernel
theorem i135_24 : zfetch 135 24 = some (8, .goto 4, 3) := by decide +kernel
theorem i135_27 : zfetch 135 27 = some (8, .iconst 0, 1) := by decide +kernel
theorem i135_28 : zfetch 135 28 = some (8, .istore_n 2, 1) := by decide +kernel
theorem i135_29 : zfetch 135 29 = some (8, .aload_n 0, 1) := by decide +kernel
theorem i135_30 : zfetch 135 30 = some (8, .getfield 7, 3) := by decide +kernel
theorem i135_33 : zfetch 135 33 = some (8, .bipush 60, 2) := by decide +kernel
theorem i135_35 : zfetch 135 35 = some (8, .bipush 125, 2) := by decide +kernel
theorem i135_37 : zfetch 135 37 = some (8, .iload_n 1, 1) := by decide +kernel
theorem i135_38 : zfetch 135 38 = some (8, .imul, 1) := by decide +kernel
theorem i135_39 : zfetch 135 39 = some (8, .iadd, 1) := by decide +kernel
theorem i135_40 : zfetch 135 40 = some (8, .iconst 0, 1) := by decide +kernel
theorem i135_41 : zfetch 135 41 = some (8, .iastore, 1) := by decide +kernel
theorem i135_42 : zfetch 135 42 = some (8, .iload_n 2, 1) := by decide +kernel
theorem i135_43 : zfetch 135 43 = some (8, .ireturn, 1) := by decide +kernel
theorem i136_0 : zfetch 136 0 = some (8, .iload_n 0, 1) := by decide +kernel
theorem i136_1 : zfetch 136 1 = some (8, .tableswitch 217 37 62 #[153, 203, 217, 217, 217, 127, 119, 217, 123, 217, 131, 217, 217, 217, 217, 217, 217, 217, 217, 217, 217, 217, 217, 170, 192, 181], 119) := by decide +kernel
theorem i136_120 : zfetch 136 120 = some (8, .iload_n 1, 1) := by decide +kernel
theorem i136_121 : zfetch 136 121 = some (8, .iload_n 2, 1) := by decide +kernel
theorem i136_122 : zfetch 136 122 = some (8, .iadd, 1) := by decide +kernel
theorem i136_123 : zfetch 136 123 = some (8, .ireturn, 1) := by decide +kernel
theorem i136_124 : zfetch 136 124 = some (8, .iload_n 1, 1) := by decide +kernel
theorem i136_125 : zfetch 136 125 = some (8, .iload_n 2, 1) := by decide +kernel
theorem i136_126 : zfetch 136 126 = some (8, .isub, 1) := by decide +kernel
theorem i136_127 : zfetch 136 127 = some (8, .ireturn, 1) := by decide +kernel
theorem i136_128 : zfetch 136 128 = some (8, .iload_n 1, 1) := by decide +kernel
theorem i136_129 : zfetch 136 129 = some (8, .iload_n 2, 1) := by decide +kernel
theorem i136_130 : zfetch 136 130 = some (8, .imul, 1) := by decide +kernel
theorem i136_131 : zfetch 136 131 = some (8, .ireturn, 1) := by decide +kernel
theorem i136_132 : zfetch 136 132 = some (8, .iload_n 2, 1) := by decide +kernel
theorem i136_133 : zfetch 136 133 = some (8, .ifCond .ne 7, 3) := by decide +kernel
theorem i136_136 : zfetch 136 136 = some (8, .iconst 0, 1) := by decide +kernel
theorem i136_137 : zfetch 136 137 = some (8, .goto 16, 3) := by decide +kernel
theorem i136_140 : zfetch 136 140 = some (8, .iload_n 2, 1) := by decide +kernel
theorem i136_141 : zfetch 136 141 = some (8, .iconst (-1), 1) := by decide +kernel
theorem i136_142 : zfetch 136 142 = some (8, .if_icmp .ne 8, 3) := by decide +kernel
theorem i136_145 : zfetch 136 145 = some (8, .iload_n 1, 1) := by decide +kernel
theorem i136_146 : zfetch 136 146 = some (8, .ineg, 1) := by decide +kernel
theorem i136_147 : zfetch 136 147 = some (8, .goto 6, 3) := by decide +kernel
theorem i136_150 : zfetch 136 150 = some (8, .iload_n 1, 1) := by decide +kernel
theorem i136_151 : zfetch 136 151 = some (8, .iload_n 2, 1) := by decide +kernel
theorem i136_152 : zfetch 136 152 = some (8, .idiv, 1) := by decide +kernel
theorem i136_153 : zfetch 136 153 = some (8, .ireturn, 1) := by decide +kernel
theorem i136_154 : zfetch 136 154 = some (8, .iload_n 2, 1) := by decide +kernel
theorem i136_155 : zfetch 136 155 = some (8, .ifCond .eq 8, 3) := by decide +kernel
theorem i136_158 : zfetch 136 158 = some (8, .iload_n 2, 1) := by decide +kernel
theorem i136_159 : zfetch 136 159 = some (8, .iconst (-1), 1) := by decide +kernel
theorem i136_160 : zfetch 136 160 = some (8, .if_icmp .ne 7, 3) := by decide +kernel
theorem i136_163 : zfetch 136 163 = some (8, .iconst 0, 1) := by decide +kernel
theorem i136_164 : zfetch 136 164 = some (8, .goto 6, 3) := by decide +kernel
theorem i136_167 : zfetch 136 167 = some (8, .iload_n 1, 1) := by decide +kernel
theorem i136_168 : zfetch 136 168 = some (8, .iload_n 2, 1) := by decide +kernel
theorem i136_169 : zfetch 136 169 = some (8, .irem, 1) := by decide +kernel
theorem i136_170 : zfetch 136 170 = some (8, .ireturn, 1) := by decide +kernel
theorem i136_171 : zfetch 136 171 = some (8, .iload_n 1, 1) := by decide +kernel
theorem i136_172 : zfetch 136 172 = some (8, .iload_n 2, 1) := by decide +kernel
theorem i136_173 : zfetch 136 173 = some (8, .if_icmp .ge 7, 3) := by decide +kernel
theorem i136_176 : zfetch 136 176 = some (8, .iconst 1, 1) := by decide +kernel
theorem i136_177 : zfetch 136 177 = some (8, .goto 4, 3) := by decide +kernel
theorem i136_180 : zfetch 136 180 = some (8, .iconst 0, 1) := by decide +kernel
theorem i136_181 : zfetch 136 181 = some (8, .ireturn, 1) := by decide +kernel
theorem i136_182 : zfetch 136 182 = some (8, .iload_n 1, 1) := by decide +kernel
theorem i136_183 : zfetch 136 183 = some (8, .iload_n 2, 1) := by decide +kernel
theorem i136_184 : zfetch 136 184 = some (8, .if_icmp .le 7, 3) := by decide +kernel
theorem i136_187 : zfetch 136 187 = some (8, .iconst 1, 1) := by decide +kernel
theorem i136_188 : zfetch 136 188 = some (8, .goto 4, 3) := by decide +kernel
theorem i136_191 : zfetch 136 191 = some (8, .iconst 0, 1) := by decide +kernel
theorem i136_192 : zfetch 136 192 = some (8, .ireturn, 1) := by decide +kernel
theorem i136_193 : zfetch 136 193 = some (8, .iload_n 1, 1) := by decide +kernel
theorem i136_194 : zfetch 136 194 = some (8, .iload_n 2, 1) := by decide +kernel
theorem i136_195 : zfetch 136 195 = some (8, .if_icmp .ne 7, 3) := by decide +kernel
theorem i136_198 : zfetch 136 198 = some (8, .iconst 1, 1) := by decide +kernel
theorem i136_199 : zfetch 136 199 = some (8, .goto 4, 3) := by decide +kernel
theorem i136_202 : zfetch 136 202 = some (8, .iconst 0, 1) := by decide +kernel
theorem i136_203 : zfetch 136 203 = some (8, .ireturn, 1) := by decide +kernel
theorem i136_204 : zfetch 136 204 = some (8, .iload_n 1, 1) := by decide +kernel
theorem i136_205 : zfetch 136 205 = some (8, .ifCond .eq 11, 3) := by decide +kernel
theorem i136_208 : zfetch 136 208 = some (8, .iload_n 2, 1) := by decide +kernel
theorem i136_209 : zfetch 136 209 = some (8, .ifCond .eq 7, 3) := by decide +kernel
theorem i136_212 : zfetch 136 212 = some (8, .iconst 1, 1) := by decide +kernel
theorem i136_213 : zfetch 136 213 = some (8, .goto 4, 3) := by decide +kernel
theorem i136_216 : zfetch 136 216 = some (8, .iconst 0, 1) := by decide +kernel
theorem i136_217 : zfetch 136 217 = some (8, .ireturn, 1) := by decide +kernel
theorem i136_218 : zfetch 136 218 = some (8, .iload_n 1, 1) := by decide +kernel
theorem i136_219 : zfetch 136 219 = some (8, .ifCond .ne 7, 3) := by decide +kernel
theorem i136_222 : zfetch 136 222 = some (8, .iload_n 2, 1) := by decide +kernel
theorem i136_223 : zfetch 136 223 = some (8, .ifCond .eq 7, 3) := by decide +kernel
theorem i136_226 : zfetch 136 226 = some (8, .iconst 1, 1) := by decide +kernel
theorem i136_227 : zfetch 136 227 = some (8, .goto 4, 3) := by decide +kernel
theorem i136_230 : zfetch 136 230 = some (8, .iconst 0, 1) := by decide +kernel
theorem i136_231 : zfetch 136 231 = some (8, .ireturn, 1) := by decide +kernel
theorem i137_0 : zfetch 137 0 = some (8, .bipush 60, 2) := by decide +kernel
theorem i137_2 : zfetch 137 2 = some (8, .bipush 125, 2) := by decide +kernel
theorem i137_4 : zfetch 137 4 = some (8, .iload_n 1, 1) := by decide +kernel
theorem i137_5 : zfetch 137 5 = some (8, .imul, 1) := by decide +kernel
theorem i137_6 : zfetch 137 6 = some (8, .iadd, 1) := by decide +kernel
theorem i137_7 : zfetch 137 7 = some (8, .istore_n 2, 1) := by decide +kernel
theorem i137_8 : zfetch 137 8 = some (8, .iconst 0, 1) := by decide +kernel
theorem i137_9 : zfetch 137 9 = some (8, .istore_n 3, 1) := by decide +kernel
theorem i137_10 : zfetch 137 10 = some (8, .iconst 0, 1) := by decide +kernel
theorem i137_11 : zfetch 137 11 = some (8, .istore 4, 2) := by decide +kernel
theorem i137_13 : zfetch 137 13 = some (8, .iload 4, 2) := by decide +kernel
theorem i137_15 : zfetch 137 15 = some (8, .aload_n 0, 1) := by decide +kernel
theorem i137_16 : zfetch 137 16 = some (8, .getfield 7, 3) := by decide +kernel
theorem i137_19 : zfetch 137 19 = some (8, .iload_n 2, 1) := by decide +kernel
theorem i137_20 : zfetch 137 20 = some (8, .iaload, 1) := by decide +kernel
theorem i137_21 : zfetch 137 21 = some (8, .if_icmp .ge 142, 3) := by decide +kernel
theorem i137_24 : zfetch 137 24 = some (8, .aload_n 0, 1) := by decide +kernel
theorem i137_25 : zfetch 137 25 = some (8, .getfield 7, 3) := by decide +kernel
theorem i137_28 : zfetch 137 28 = some (8, .iload_n 2, 1) := by decide +kernel
theorem i137_29 : zfetch 137 29 = some (8, .iconst 1, 1) := by decide +kernel
theorem i137_30 : zfetch 137 30 = some (8, .iadd, 1) := by decide +kernel
theorem i137_31 : zfetch 137 31 = some (8, .iconst 2, 1) := by decide +kernel
theorem i137_32 : zfetch 137 32 = some (8, .iload 4, 2) := by decide +kernel
theorem i137_34 : zfetch 137 34 = some (8, .imul, 1) := by decide +kernel
theorem i137_35 : zfetch 137 35 = some (8, .iadd, 1) := by decide +kernel
theorem i137_36 : zfetch 137 36 = some (8, .iaload, 1) := by decide +kernel
theorem i137_37 : zfetch 137 37 = some (8, .istore 5, 2) := by decide +kernel
theorem i137_39 : zfetch 137 39 = some (8, .aload_n 0, 1) := by decide +kernel
theorem i137_40 : zfetch 137 40 = some (8, .getfield 7, 3) := by decide +kernel
theorem i137_43 : zfetch 137 43 = some (8, .iload_n 2, 1) := by decide +kernel
theorem i137_44 : zfetch 137 44 = some (8, .iconst 2, 1) := by decide +kernel
theorem i137_45 : zfetch 137 45 = some (8, .iadd, 1) := by decide +kernel
theorem i137_46 : zfetch 137 46 = some (8, .iconst 2, 1) := by decide +kernel
theorem i137_47 : zfetch 137 47 = some (8, .iload 4, 2) := by decide +kernel
theorem i137_49 : zfetch 137 49 = some (8, .imul, 1) := by decide +kernel
theorem i137_50 : zfetch 137 50 = some (8, .iadd, 1) := by decide +kernel
theorem i137_51 : zfetch 137 51 = some (8, .iaload, 1) := by decide +kernel
theorem i137_52 : zfetch 137 52 = some (8, .istore 6, 2) := by decide +kernel
theorem i137_54 : zfetch 137 54 = some (8, .iload 5, 2) := by decide +kernel
theorem i137_56 : zfetch 137 56 = some (8, .ifCond .eq 9, 3) := by decide +kernel
theorem i137_59 : zfetch 137 59 = some (8, .iload 5, 2) := by decide +kernel
theorem i137_61 : zfetch 137 61 = some (8, .iconst 1, 1) := by decide +kernel
theorem i137_62 : zfetch 137 62 = some (8, .if_icmp .ne 32, 3) := by decide +kernel
theorem i137_65 : zfetch 137 65 = some (8, .aload_n 0, 1) := by decide +kernel
theorem i137_66 : zfetch 137 66 = some (8, .getfield 31, 3) := by decide +kernel
theorem i137_69 : zfetch 137 69 = some (8, .iload_n 3, 1) := by decide +kernel
theorem i137_70 : zfetch 137 70 = some (8, .iload 5, 2) := by decide +kernel
theorem i137_72 : zfetch 137 72 = some (8, .ifCond .ne 8, 3) := by decide +kernel
theorem i137_75 : zfetch 137 75 = some (8, .iload 6, 2) := by decide +kernel
theorem i137_77 : zfetch 137 77 = some (8, .goto 10, 3) := by decide +kernel
theorem i137_80 : zfetch 137 80 = some (8, .aload_n 0, 1) := by decide +kernel
theorem i137_81 : zfetch 137 81 = some (8, .getfield 28, 3) := by decide +kernel
theorem i137_84 : zfetch 137 84 = some (8, .iload 6, 2) := by decide +kernel
theorem i137_86 : zfetch 137 86 = some (8, .iaload, 1) := by decide +kernel
theorem i137_87 : zfetch 137 87 = some (8, .iastore, 1) := by decide +kernel
theorem i137_88 : zfetch 137 88 = some (8, .iinc 3 1, 3) := by decide +kernel
theorem i137_91 : zfetch 137 91 = some (8, .goto 66, 3) := by decide +kernel
theorem i137_94 : zfetch 137 94 = some (8, .iload 5, 2) := by decide +kernel
theorem i137_96 : zfetch 137 96 = some (8, .iconst 2, 1) := by decide +kernel
theorem i137_97 : zfetch 137 97 = some (8, .if_icmp .ne 30, 3) := by decide +kernel
theorem i137_100 : zfetch 137 100 = some (8, .aload_n 0, 1) := by decide +kernel
theorem i137_101 : zfetch 137 101 = some (8, .getfield 31, 3) := by decide +kernel
theorem i137_104 : zfetch 137 104 = some (8, .iload_n 3, 1) := by decide +kernel
theorem i137_105 : zfetch 137 105 = some (8, .iconst 1, 1) := by decide +kernel
theorem i137_106 : zfetch 137 106 = some (8, .isub, 1) := by decide +kernel
theorem i137_107 : zfetch 137 107 = some (8, .aload_n 0, 1) := by decide +kernel
theorem i137_108 : zfetch 137 108 = some (8, .getfield 31, 3) := by decide +kernel
theorem i137_111 : zfetch 137 111 = some (8, .iload_n 3, 1) := by decide +kernel
theorem i137_112 : zfetch 137 112 = some (8, .iconst 1, 1) := by decide +kernel
theorem i137_113 : zfetch 137 113 = some (8, .isub, 1) := by decide +kernel
theorem i137_114 : zfetch 137 114 = some (8, .iaload, 1) := by decide +kernel
theorem i137_115 : zfetch 137 115 = some (8, .ifCond .ne 7, 3) := by decide +kernel
theorem i137_118 : zfetch 137 118 = some (8, .iconst 1, 1) := by decide +kernel
theorem i137_119 : zfetch 137 119 = some (8, .goto 4, 3) := by decide +kernel
theorem i137_122 : zfetch 137 122 = some (8, .iconst 0, 1) := by decide +kernel
theorem i137_123 : zfetch 137 123 = some (8, .iastore, 1) := by decide +kernel
theorem i137_124 : zfetch 137 124 = some (8, .goto 33, 3) := by decide +kernel
theorem i137_127 : zfetch 137 127 = some (8, .iinc 3 (-1), 3) := by decide +kernel
theorem i137_130 : zfetch 137 130 = some (8, .aload_n 0, 1) := by decide +kernel
theorem i137_131 : zfetch 137 131 = some (8, .getfield 31, 3) := by decide +kernel
theorem i137_134 : zfetch 137 134 = some (8, .iload_n 3, 1) := by decide +kernel
theorem i137_135 : zfetch 137 135 = some (8, .iconst 1, 1) := by decide +kernel
theorem i137_136 : zfetch 137 136 = some (8, .isub, 1) := by decide +kernel
theorem i137_137 : zfetch 137 137 = some (8, .iload 6, 2) := by decide +kernel
theorem i137_139 : zfetch 137 139 = some (8, .aload_n 0, 1) := by decide +kernel
theorem i137_140 : zfetch 137 140 = some (8, .getfield 31, 3) := by decide +kernel
theorem i137_143 : zfetch 137 143 = some (8, .iload_n 3, 1) := by decide +kernel
theorem i137_144 : zfetch 137 144 = some (8, .iconst 1, 1) := by decide +kernel
theorem i137_145 : zfetch 137 145 = some (8, .isub, 1) := by decide +kernel
theorem i137_146 : zfetch 137 146 = some (8, .iaload, 1) := by decide +kernel
theorem i137_147 : zfetch 137 147 = some (8, .aload_n 0, 1) := by decide +kernel
theorem i137_148 : zfetch 137 148 = some (8, .getfield 31, 3) := by decide +kernel
theorem i137_151 : zfetch 137 151 = some (8, .iload_n 3, 1) := by decide +kernel
theorem i137_152 : zfetch 137 152 = some (8, .iaload, 1) := by decide +kernel
theorem i137_153 : zfetch 137 153 = some (8, .invokestatic 114, 3) := by decide +kernel
theorem i137_156 : zfetch 137 156 = some (8, .iastore, 1) := by decide +kernel
theorem i137_157 : zfetch 137 157 = some (8, .iinc 4 1, 3) := by decide +kernel
theorem i137_160 : zfetch 137 160 = some (8, .goto (-147), 3) := by decide +kernel
theorem i137_163 : zfetch 137 163 = some (8, .aload_n 0, 1) := by decide +kernel
theorem i137_164 : zfetch 137 164 = some (8, .getfield 31, 3) := by decide +kernel
theorem i137_167 : zfetch 137 167 = some (8, .iconst 0, 1) := by decide +kernel
theorem i137_168 : zfetch 137 168 = some (8, .iaload, 1) := by decide +kernel
theorem i137_169 : zfetch 137 169 = some (8, .ireturn, 1) := by decide +kernel
theorem i138_0 : zfetch 138 0 = some (8, .iconst 0, 1) := by decide +kernel
theorem i138_1 : zfetch 138 1 = some (8, .istore_n 2, 1) := by decide +kernel
theorem i138_2 : zfetch 138 2 = some (8, .iconst 0, 1) := by decide +kernel
theorem i138_3 : zfetch 138 3 = some (8, .istore_n 3, 1) := by decide +kernel
theorem i138_4 : zfetch 138 4 = some (8, .iload_n 3, 1) := by decide +kernel
theorem i138_5 : zfetch 138 5 = some (8, .aload_n 0, 1) := by decide +kernel
theorem i138_6 : zfetch 138 6 = some (8, .getfield 7, 3) := by decide +kernel
theorem i138_9 : zfetch 138 9 = some (8, .iconst 4, 1) := by decide +kernel
theorem i138_10 : zfetch 138 10 = some (8, .iaload, 1) := by decide +kernel
theorem i138_11 : zfetch 138 11 = some (8, .if_icmp .ge 29, 3) := by decide +kernel
theorem i138_14 : zfetch 138 14 = some (8, .iload_n 2, 1) := by decide +kernel
theorem i138_15 : zfetch 138 15 = some (8, .ifCond .ne 13, 3) := by decide +kernel
theorem i138_18 : zfetch 138 18 = some (8, .aload_n 0, 1) := by decide +kernel
theorem i138_19 : zfetch 138 19 = some (8, .iload_n 3, 1) := by decide +kernel
theorem i138_20 : zfetch 138 20 = some (8, .iconst 2, 1) := by decide +kernel
theorem i138_21 : zfetch 138 21 = some (8, .invokevirtual 54, 3) := by decide +kernel
theorem i138_24 : zfetch 138 24 = some (8, .iload_n 1, 1) := by decide +kernel
theorem i138_25 : zfetch 138 25 = some (8, .if_icmp .ne 7, 3) := by decide +kernel
theorem i138_28 : zfetch 138 28 = some (8, .iconst 1, 1) := by decide +kernel
theorem i138_29 : zfetch 138 29 = some (8, .goto 4, 3) := by decide +kernel
theorem i138_32 : zfetch 138 32 = some (8, .iconst 0, 1) := by decide +kernel
theorem i138_33 : zfetch 138 33 = some (8, .istore_n 2, 1) := by decide +kernel
theorem i138_34 : zfetch 138 34 = some (8, .iinc 3 1, 3) := by decide +kernel
theorem i138_37 : zfetch 138 37 = some (8, .goto (-33), 3) := by decide +kernel
theorem i138_40 : zfetch 138 40 = some (8, .iload_n 2, 1) := by decide +kernel
theorem i138_41 : zfetch 138 41 = some (8, .ireturn, 1) := by decide +kernel
theorem i139_0 : zfetch 139 0 = some (8, .aload_n 0, 1) := by decide +kernel
theorem i139_1 : zfetch 139 1 = some (8, .iload_n 1, 1) := by decide +kernel
theorem i139_2 : zfetch 139 2 = some (8, .iconst 1, 1) := by decide +kernel
theorem i139_3 : zfetch 139 3 = some (8, .invokevirtual 54, 3) := by decide +kernel
theorem i139_6 : zfetch 139 6 = some (8, .istore_n 2, 1) := by decide +kernel
theorem i139_7 : zfetch 139 7 = some (8, .aload_n 0, 1) := by decide +kernel
theorem i139_8 : zfetch 139 8 = some (8, .iload_n 1, 1) := by decide +kernel
theorem i139_9 : zfetch 139 9 = some (8, .iconst 5, 1) := by decide +kernel
theorem i139_10 : zfetch 139 10 = some (8, .invokevirtual 54, 3) := by decide +kernel
theorem i139_13 : zfetch 139 13 = some (8, .ifCond .le 7, 3) := by decide +kernel
theorem i139_16 : zfetch 139 16 = some (8, .iconst 3, 1) := by decide +kernel
theorem i139_17 : zfetch 139 17 = some (8, .goto 4, 3) := by decide +kernel
theorem i139_20 : zfetch 139 20 = some (8, .iconst 0, 1) := by decide +kernel
theorem i139_21 : zfetch 139 21 = some (8, .istore_n 3, 1) := by decide +kernel
theorem i139_22 : zfetch 139 22 = some (8, .aload_n 0, 1) := by decide +kernel
theorem i139_23 : zfetch 139 23 = some (8, .iload_n 1, 1) := by decide +kernel
theorem i139_24 : zfetch 139 24 = some (8, .iconst 0, 1) := by decide +kernel
theorem i139_25 : zfetch 139 25 = some (8, .invokevirtual 54, 3) := by decide +kernel
theorem i139_28 : zfetch 139 28 = some (8, .tableswitch 82 1 6 #[40, 42, 44, 46, 60, 71], 40) := by decide +kernel
theorem i139_68 : zfetch 139 68 = some (8, .iconst 1, 1) := by decide +kernel
theorem i139_69 : zfetch 139 69 = some (8, .ireturn, 1) := by decide +kernel
theorem i139_70 : zfetch 139 70 = some (8, .iload_n 3, 1) := by decide +kernel
theorem i139_71 : zfetch 139 71 = some (8, .ireturn, 1) := by decide +kernel
theorem i139_72 : zfetch 139 72 = some (8, .iconst 2, 1) := by decide +kernel
theorem i139_73 : zfetch 139 73 = some (8, .ireturn, 1) := by decide +kernel
theorem i139_74 : zfetch 139 74 = some (8, .aload_n 0, 1) := by decide +kernel
theorem i139_75 : zfetch 139 75 = some (8, .iload_n 1, 1) := by decide +kernel
theorem i139_76 : zfetch 139 76 = some (8, .invokevirtual 118, 3) := by decide +kernel
theorem i139_79 : zfetch 139 79 = some (8, .ifCond .eq 7, 3) := by decide +kernel
theorem i139_82 : zfetch 139 82 = some (8, .iconst 0, 1) := by decide +kernel
theorem i139_83 : zfetch 139 83 = some (8, .goto 4, 3) := by decide +kernel
theorem i139_86 : zfetch 139 86 = some (8, .iconst 1, 1) := by decide +kernel
theorem i139_87 : zfetch 139 87 = some (8, .ireturn, 1) := by decide +kernel
theorem i139_88 : zfetch 139 88 = some (8, .iload_n 2, 1) := by decide +kernel
theorem i139_89 : zfetch 139 89 = some (8, .iconst 4, 1) := by decide +kernel
theorem i139_90 : zfetch 139 90 = some (8, .if_icmp .le 7, 3) := by decide +kernel
theorem i139_93 : zfetch 139 93 = some (8, .iload_n 3, 1) := by decide +kernel
theorem i139_94 : zfetch 139 94 = some (8, .goto 4, 3) := by decide +kernel
theorem i139_97 : zfetch 139 97 = some (8, .iconst 2, 1) := by decide +kernel
theorem i139_98 : zfetch 139 98 = some (8, .ireturn, 1) := by decide +kernel
theorem i139_99 : zfetch 139 99 = some (8, .aload_n 0, 1) := by decide +kernel
theorem i139_100 : zfetch 139 100 = some (8, .getfield 7, 3) := by decide +kernel
theorem i139_103 : zfetch 139 103 = some (8, .iconst 0, 1) := by decide +kernel
theorem i139_104 : zfetch 139 104 = some (8, .iaload, 1) := by decide +kernel
theorem i139_105 : zfetch 139 105 = some (8, .iload_n 2, 1) := by decide +kernel
theorem i139_106 : zfetch 139 106 = some (8, .iadd, 1) := by decide +kernel
theorem i139_107 : zfetch 139 107 = some (8, .iconst 4, 1) := by decide +kernel
theorem i139_108 : zfetch 139 108 = some (8, .irem, 1) := by decide +kernel
theorem i139_109 : zfetch 139 109 = some (8, .ireturn, 1) := by decide +kernel
theorem i139_110 : zfetch 139 110 = some (8, .iconst 0, 1) := by decide +kernel
theorem i139_111 : zfetch 139 111 = some (8, .ireturn, 1) := by decide +kernel
theorem i140_0 : zfetch 140 0 = some (8, .aload_n 0, 1) := by decide +kernel
theorem i140_1 : zfetch 140 1 = some (8, .iload_n 1, 1) := by decide +kernel
theorem i140_2 : zfetch 140 2 = some (8, .iconst 1, 1) := by decide +kernel
theorem i140_3 : zfetch 140 3 = some (8, .invokevirtual 54, 3) := by decide +kernel
theorem i140_6 : zfetch 140 6 = some (8, .istore_n 2, 1) := by decide +kernel
theorem i140_7 : zfetch 140 7 = some (8, .iconst 2, 1) := by decide +kernel
theorem i140_8 : zfetch 140 8 = some (8, .aload_n 0, 1) := by decide +kernel
theorem i140_9 : zfetch 140 9 = some (8, .getfield 7, 3) := by decide +kernel
theorem i140_12 : zfetch 140 12 = some (8, .iconst 0, 1) := by decide +kernel
theorem i140_13 : zfetch 140 13 = some (8, .iaload, 1) := by decide +kernel
theorem i140_14 : zfetch 140 14 = some (8, .iconst 2, 1) := by decide +kernel
theorem i140_15 : zfetch 140 15 = some (8, .irem, 1) := by decide +kernel
theorem i140_16 : zfetch 140 16 = some (8, .iadd, 1) := by decide +kernel
theorem i140_17 : zfetch 140 17 = some (8, .istore_n 3, 1) := by decide +kernel
theorem i140_18 : zfetch 140 18 = some (8, .aload_n 0, 1) := by decide +kernel
theorem i140_19 : zfetch 140 19 = some (8, .iload_n 1, 1) := by decide +kernel
theorem i140_20 : zfetch 140 20 = some (8, .iconst 0, 1) := by decide +kernel
theorem i140_21 : zfetch 140 21 = some (8, .invokevirtual 54, 3) := by decide +kernel
theorem i140_24 : zfetch 140 24 = some (8, .tableswitch 56 1 6 #[40, 42, 44, 48, 52, 54], 40) := by decide +kernel
theorem i140_64 : zfetch 140 64 = some (8, .iload_n 3, 1) := by decide +kernel
theorem i140_65 : zfetch 140 65 = some (8, .ireturn, 1) := by decide +kernel
theorem i140_66 : zfetch 140 66 = some (8, .iconst 1, 1) := by decide +kernel
theorem i140_67 : zfetch 140 67 = some (8, .ireturn, 1) := by decide +kernel
theorem i140_68 : zfetch 140 68 = some (8, .iload_n 2, 1) := by decide +kernel
theorem i140_69 : zfetch 140 69 = some (8, .iconst 5, 1) := by decide +kernel
theorem i140_70 : zfetch 140 70 = some (8, .idiv, 1) := by decide +kernel
theorem i140_71 : zfetch 140 71 = some (8, .ireturn, 1) := by decide +kernel
theorem i140_72 : zfetch 140 72 = some (8, .iload_n 3, 1) := by decide +kernel
theorem i140_73 : zfetch 140 73 = some (8, .iload_n 2, 1) := by decide +kernel
theorem i140_74 : zfetch 140 74 = some (8, .iadd, 1) := by decide +kernel
theorem i140_75 : zfetch 140 75 = some (8, .ireturn, 1) := by decide +kernel
theorem i140_76 : zfetch 140 76 = some (8, .iconst 4, 1) := by decide +kernel
theorem i140_77 : zfetch 140 77 = some (8, .ireturn, 1) := by decide +kernel
theorem i140_78 : zfetch 140 78 = some (8, .iconst 1, 1) := by decide +kernel
theorem i140_79 : zfetch 140 79 = some (8, .ireturn, 1) := by decide +kernel
theorem i140_80 : zfetch 140 80 = some (8, .iconst 2, 1) := by decide +kernel
theorem i140_81 : zfetch 140 81 = some (8, .ireturn, 1) := by decide +kernel
theorem i141_0 : zfetch 141 0 = some (8, .iload_n 0, 1) := by decide +kernel
theorem i141_1 : zfetch 141 1 = some (8, .iconst 4, 1) := by decide +kernel
theorem i141_2 : zfetch 141 2 = some (8, .irem, 1) := by decide +kernel
theorem i141_3 : zfetch 141 3 = some (8, .istore_n 1, 1) := by decide +kernel
theorem i141_4 : zfetch 141 4 = some (8, .iload_n 1, 1) := by decide +kernel
theorem i141_5 : zfetch 141 5 = some (8, .ifCond .ge 9, 3) := by decide +kernel
theorem i141_8 : zfetch 141 8 = some (8, .iload_n 1, 1) := by decide +kernel
theorem i141_9 : zfetch 141 9 = some (8, .iconst 4, 1) := by decide +kernel
theorem i141_10 : zfetch 141 10 = some (8, .iadd, 1) := by decide +kernel
theorem i141_11 : zfetch 141 11 = some (8, .goto 4, 3) := by decide +kernel
theorem i141_14 : zfetch 141 14 = some (8, .iload_n 1, 1) := by decide +kernel
theorem i141_15 : zfetch 141 15 = some (8, .ireturn, 1) := by decide +kernel
theorem i142_0 : zfetch 142 0 = some (8, .aload_n 0, 1) := by decide +kernel
theorem i142_1 : zfetch 142 1 = some (8, .getfield 28, 3) := by decide +kernel
theorem i142_4 : zfetch 142 4 = some (8, .iload_n 1, 1) := by decide +kernel
theorem i142_5 : zfetch 142 5 = some (8, .ifCond .ne 8, 3) := by decide +kernel
theorem i142_8 : zfetch 142 8 = some (8, .bipush 121, 2) := by decide +kernel
theorem i142_10 : zfetch 142 10 = some (8, .goto 5, 3) := by decide +kernel
theorem i142_13 : zfetch 142 13 = some (8, .bipush 115, 2) := by decide +kernel
theorem i142_15 : zfetch 142 15 = some (8, .iload_n 2, 1) := by decide +kernel
theorem i142_16 : zfetch 142 16 = some (8, .iastore, 1) := by decide +kernel
theorem i142_17 : zfetch 142 17 = some (8, .aload_n 0, 1) := by decide +kernel
theorem i142_18 : zfetch 142 18 = some (8, .getfield 28, 3) := by decide +kernel
theorem i142_21 : zfetch 142 21 = some (8, .iload_n 1, 1) := by decide +kernel
theorem i142_22 : zfetch 142 22 = some (8, .ifCond .ne 8, 3) := by decide +kernel
theorem i142_25 : zfetch 142 25 = some (8, .bipush 115, 2) := by decide +kernel
theorem i142_27 : zfetch 142 27 = some (8, .goto 5, 3) := by decide +kernel
theorem i142_30 : zfetch 142 30 = some (8, .bipush 111, 2) := by decide +kernel
theorem i142_32 : zfetch 142 32 = some (8, .iload_n 3, 1) := by decide +kernel
theorem i142_33 : zfetch 142 33 = some (8, .iastore, 1) := by decide +kernel
theorem i142_34 : zfetch 142 34 = some (8, .aload_n 0, 1) := by decide +kernel
theorem i142_35 : zfetch 142 35 = some (8, .getfield 28, 3) := by decide +kernel
theorem i142_38 : zfetch 142 38 = some (8, .bipush 100, 2) := by decide +kernel
theorem i142_40 : zfetch 142 40 = some (8, .iload 4, 2) := by decide +kernel
theorem i142_42 : zfetch 142 42 = some (8, .iastore, 1) := by decide +kernel
theorem i142_43 : zfetch 142 43 = some (8, .aload_n 0, 1) := by decide +kernel
theorem i142_44 : zfetch 142 44 = some (8, .iload_n 1, 1) := by decide +kernel
theorem i142_45 : zfetch 142 45 = some (8, .invokevirtual 111, 3) := by decide +kernel
theorem i142_48 : zfetch 142 48 = some (8, .ifCond .eq 11, 3) := by decide +kernel
theorem i142_51 : zfetch 142 51 = some (8, .aload_n 0, 1) := by decide +kernel
theorem i142_52 : zfetch 142 52 = some (8, .iload_n 1, 1) := by decide +kernel
theorem i142_53 : zfetch 142 53 = some (8, .invokevirtual 121, 3) := by decide +kernel
theorem i142_56 : zfetch 142 56 = some (8, .goto 4, 3) := by decide +kernel
theorem i142_59 : zfetch 142 59 = some (8, .iload_n 2, 1) := by decide +kernel
theorem i142_60 : zfetch 142 60 = some (8, .istore 5, 2) := by decide +kernel
theorem i142_62 : zfetch 142 62 = some (8, .iload_n 1, 1) := by decide +kernel
theorem i142_63 : zfetch 142 63 = some (8, .ifCond .ne 11, 3) := by decide +kernel
theorem i142_66 : zfetch 142 66 = some (8, .iload 5, 2) := by decide +kernel
theorem i142_68 : zfetch 142 68 = some (8, .invokestatic 124, 3) := by decide +kernel
theorem i142_71 : zfetch 142 71 = some (8, .goto 11, 3) := by decide +kernel
theorem i142_74 : zfetch 142 74 = some (8, .iload 5, 2) := by decide +kernel
theorem i142_76 : zfetch 142 76 = some (8, .iconst 0, 1) := by decide +kernel
theorem i142_77 : zfetch 142 77 = some (8, .bipush 9, 2) := by decide +kernel
theorem i142_79 : zfetch 142 79 = some (8, .invokestatic 127, 3) := by decide +kernel
theorem i142_82 : zfetch 142 82 = some (8, .ireturn, 1) := by decide +kernel
theorem i143_0 : zfetch 143 0 = some (8, .aload_n 0, 1) := by decide +kernel
theorem i143_1 : zfetch 143 1 = some (8, .iconst 0, 1) := by decide +kernel
theorem i143_2 : zfetch 143 2 = some (8, .aload_n 0, 1) := by decide +kernel
theorem i143_3 : zfetch 143 3 = some (8, .iload_n 1, 1) := by decide +kernel
theorem i143_4 : zfetch 143 4 = some (8, .invokevirtual 130, 3) := by decide +kernel
theorem i143_7 : zfetch 143 7 = some (8, .aload_n 0, 1) := by decide +kernel
theorem i143_8 : zfetch 143 8 = some (8, .iload_n 1, 1) := by decide +kernel
theorem i143_9 : zfetch 143 9 = some (8, .iconst 5, 1) := by decide +kernel
theorem i143_10 : zfetch 143 10 = some (8, .invokevirtual 54, 3) := by decide +kernel
theorem i143_13 : zfetch 143 13 = some (8, .aload_n 0, 1) := by decide +kernel
theorem i143_14 : zfetch 143 14 = some (8, .getfield 7, 3) := by decide +kernel
theorem i143_17 : zfetch 143 17 = some (8, .iconst 0, 1) := by decide +kernel
theorem i143_18 : zfetch 143 18 = some (8, .iaload, 1) := by decide +kernel
theorem i143_19 : zfetch 143 19 = some (8, .bipush 8, 2) := by decide +kernel
theorem i143_21 : zfetch 143 21 = some (8, .irem, 1) := by decide +kernel
theorem i143_22 : zfetch 143 22 = some (8, .invokevirtual 133, 3) := by decide +kernel
theorem i143_25 : zfetch 143 25 = some (8, .ireturn, 1) := by decide +kernel
theorem i144_0 : zfetch 144 0 = some (8, .aload_n 0, 1) := by decide +kernel
theorem i144_1 : zfetch 144 1 = some (8, .iconst 1, 1) := by decide +kernel
theorem i144_2 : zfetch 144 2 = some (8, .aload_n 0, 1) := by decide +kernel
theorem i144_3 : zfetch 144 3 = some (8, .iload_n 1, 1) := by decide +kernel
theorem i144_4 : zfetch 144 4 = some (8, .invokevirtual 137, 3) := by decide +kernel
theorem i144_7 : zfetch 144 7 = some (8, .aload_n 0, 1) := by decide +kernel
theorem i144_8 : zfetch 144 8 = some (8, .iload_n 1, 1) := by decide +kernel
theorem i144_9 : zfetch 144 9 = some (8, .iconst 4, 1) := by decide +kernel
theorem i144_10 : zfetch 144 10 = some (8, .invokevirtual 54, 3) := by decide +kernel
theorem i144_13 : zfetch 144 13 = some (8, .aload_n 0, 1) := by decide +kernel
theorem i144_14 : zfetch 144 14 = some (8, .getfield 7, 3) := by decide +kernel
theorem i144_17 : zfetch 144 17 = some (8, .iconst 0, 1) := by decide +kernel
theorem i144_18 : zfetch 144 18 = some (8, .iaload, 1) := by decide +kernel
theorem i144_19 : zfetch 144 19 = some (8, .bipush 8, 2) := by decide +kernel
theorem i144_21 : zfetch 144 21 = some (8, .irem, 1) := by decide +kernel
theorem i144_22 : zfetch 144 22 = some (8, .invokevirtual 133, 3) := by decide +kernel
theorem i144_25 : zfetch 144 25 = some (8, .ireturn, 1) := by decide +kernel
theorem i145_0 : zfetch 145 0 = some (8, .iload_n 0, 1) := by decide +kernel
theorem i145_1 : zfetch 145 1 = some (8, .iload_n 1, 1) := by decide +kernel
theorem i145_2 : zfetch 145 2 = some (8, .if_icmp .ge 9, 3) := by decide +kernel
theorem i145_5 : zfetch 145 5 = some (8, .iload_n 1, 1) := by decide +kernel
theorem i145_6 : zfetch 145 6 = some (8, .iload_n 0, 1) := by decide +kernel
theorem i145_7 : zfetch 145 7 = some (8, .isub, 1) := by decide +kernel
theorem i145_8 : zfetch 145 8 = some (8, .goto 6, 3) := by decide +kernel
theorem i145_11 : zfetch 145 11 = some (8, .iload_n 0, 1) := by decide +kernel
theorem i145_12 : zfetch 145 12 = some (8, .iload_n 1, 1) := by decide +kernel
theorem i145_13 : zfetch 145 13 = some (8, .isub, 1) := by decide +kernel
theorem i145_14 : zfetch 145 14 = some (8, .ireturn, 1) := by decide +kernel
theorem i146_0 : zfetch 146 0 = some (8, .aload_n 0, 1) := by decide +kernel
theorem i146_1 : zfetch 146 1 = some (8, .iload_n 1, 1) := by decide +kernel
theorem i146_2 : zfetch 146 2 = some (8, .invokevirtual 140, 3) := by decide +kernel
theorem i146_5 : zfetch 146 5 = some (8, .ifCond .eq 26, 3) := by decide +kernel
theorem i146_8 : zfetch 146 8 = some (8, .aload_n 0, 1) := by decide +kernel
theorem i146_9 : zfetch 146 9 = some (8, .iload_n 1, 1) := by decide +kernel
theorem i146_10 : zfetch 146 10 = some (8, .iconst 3, 1) := by decide +kernel
theorem i146_11 : zfetch 146 11 = some (8, .invokevirtual 54, 3) := by decide +kernel
theorem i146_14 : zfetch 146 14 = some (8, .aload_n 0, 1) := by decide +kernel
theorem i146_15 : zfetch 146 15 = some (8, .aload_n 0, 1) := by decide +kernel
theorem i146_16 : zfetch 146 16 = some (8, .iload_n 1, 1) := by decide +kernel
theorem i146_17 : zfetch 146 17 = some (8, .iconst 2, 1) := by decide +kernel
theorem i146_18 : zfetch 146 18 = some (8, .invokevirtual 54, 3) := by decide +kernel
theorem i146_21 : zfetch 146 21 = some (8, .iconst 3, 1) := by decide +kernel
theorem i146_22 : zfetch 146 22 = some (8, .invokevirtual 54, 3) := by decide +kernel
theorem i146_25 : zfetch 146 25 = some (8, .invokestatic 143, 3) := by decide +kernel
theorem i146_28 : zfetch 146 28 = some (8, .goto 4, 3) := by decide +kernel
theorem i146_31 : zfetch 146 31 = some (8, .iconst 0, 1) := by decide +kernel
theorem i146_32 : zfetch 146 32 = some (8, .ireturn, 1) := by decide +kernel
theorem i147_0 : zfetch 147 0 = some (8, .iconst 0, 1) := by decide +kernel
theorem i147_1 : zfetch 147 1 = some (8, .istore_n 1, 1) := by decide +kernel
theorem i147_2 : zfetch 147 2 = some (8, .iload_n 1, 1) := by decide +kernel
theorem i147_3 : zfetch 147 3 = some (8, .aload_n 0, 1) := by decide +kernel
theorem i147_4 : zfetch 147 4 = some (8, .getfield 7, 3) := by decide +kernel
theorem i147_7 : zfetch 147 7 = some (8, .iconst 4, 1) := by decide +kernel
theorem i147_8 : zfetch 147 8 = some (8, .iaload, 1) := by decide +kernel
theorem i147_9 : zfetch 147 9 = some (8, .if_icmp .ge 25, 3) := by decide +kernel
theorem i147_12 : zfetch 147 12 = some (8, .aload_n 0, 1) := by decide +kernel
theorem i147_13 : zfetch 147 13 = some (8, .iload_n 1, 1) := by decide +kernel
theorem i147_14 : zfetch 147 14 = some (8, .invokevirtual 146, 3) := by decide +kernel
theorem i147_17 : zfetch 147 17 = some (8, .aload_n 0, 1) := by decide +kernel
theorem i147_18 : zfetch 147 18 = some (8, .iload_n 1, 1) := by decide +kernel
theorem i147_19 : zfetch 147 19 = some (8, .iconst 4, 1) := by decide +kernel
theorem i147_20 : zfetch 147 20 = some (8, .invokevirtual 54, 3) := by decide +kernel
theorem i147_23 : zfetch 147 23 = some (8, .if_icmp .le 5, 3) := by decide +kernel
theorem i147_26 : zfetch 147 26 = some (8, .iload_n 1, 1) := by decide +kernel
theorem i147_27 : zfetch 147 27 = some (8, .ireturn, 1) := by decide +kernel
theorem i147_28 : zfetch 147 28 = some (8, .iinc 1 1, 3) := by decide +kernel
theorem i147_31 : zfetch 147 31 = some (8, .goto (-29), 3) := by decide +kernel
theorem i147_34 : zfetch 147 34 = some (8, .iconst (-1), 1) := by decide +kernel
theorem i147_35 : zfetch 147 35 = some (8, .ireturn, 1) := by decide +kernel
theorem i148_0 : zfetch 148 0 = some (8, .aload_n 0, 1) := by decide +kernel
theorem i148_1 : zfetch 148 1 = some (8, .iload_n 1, 1) := by decide +kernel
theorem i148_2 : zfetch 148 2 = some (8, .iconst 2, 1) := by decide +kernel
theorem i148_3 : zfetch 148 3 = some (8, .iconst (-1), 1) := by decide +kernel
theorem i148_4 : zfetch 148 4 = some (8, .invokevirtual 149, 3) := by decide +kernel
theorem i148_7 : zfetch 148 7 = some (8, .aload_n 0, 1) := by decide +kernel
theorem i148_8 : zfetch 148 8 = some (8, .iload_n 1, 1) := by decide +kernel
theorem i148_9 : zfetch 148 9 = some (8, .iconst 4, 1) := by decide +kernel
theorem i148_10 : zfetch 148 10 = some (8, .iconst 0, 1) := by decide +kernel
theorem i148_11 : zfetch 148 11 = some (8, .invokevirtual 149, 3) := by decide +kernel
theorem i148_14 : zfetch 148 14 = some (8, .aload_n 0, 1) := by decide +kernel
theorem i148_15 : zfetch 148 15 = some (8, .iload_n 1, 1) := by decide +kernel
theorem i148_16 : zfetch 148 16 = some (8, .iconst 5, 1) := by decide +kernel
theorem i148_17 : zfetch 148 17 = some (8, .iconst 0, 1) := by decide +kernel
theorem i148_18 : zfetch 148 18 = some (8, .invokevirtual 149, 3) := by decide +kernel
theorem i148_21 : zfetch 148 21 = some (8, .return_, 1) := by decide +kernel
theorem i149_0 : zfetch 149 0 = some (8, .aload_n 0, 1) := by decide +kernel
theorem i149_1 : zfetch 149 1 = some (8, .iload_n 1, 1) := by decide +kernel
theorem i149_2 : zfetch 149 2 = some (8, .invokevirtual 153, 3) := by decide +kernel
theorem i149_5 : zfetch 149 5 = some (8, .aload_n 0, 1) := by decide +kernel
theorem i149_6 : zfetch 149 6 = some (8, .getfield 7, 3) := by decide +kernel
theorem i149_9 : zfetch 149 9 = some (8, .iconst 5, 1) := by decide +kernel
theorem i149_10 : zfetch 149 10 = some (8, .aload_n 0, 1) := by decide +kernel
theorem i149_11 : zfetch 149 11 = some (8, .getfield 7, 3) := by decide +kernel
theorem i149_14 : zfetch 149 14 = some (8, .iconst 5, 1) := by decide +kernel
theorem i149_15 : zfetch 149 15 = some (8, .iaload, 1) := by decide +kernel
theorem i149_16 : zfetch 149 16 = some (8, .iconst 1, 1) := by decide +kernel
theorem i149_17 : zfetch 149 17 = some (8, .iadd, 1) := by decide +kernel
theorem i149_18 : zfetch 149 18 = some (8, .iconst 0, 1) := by decide +kernel
theorem i149_19 : zfetch 149 19 = some (8, .sipush 9999, 3) := by decide +kernel
theorem i149_22 : zfetch 149 22 = some (8, .invokestatic 127, 3) := by decide +kernel
theorem i149_25 : zfetch 149 25 = some (8, .iastore, 1) := by decide +kernel
theorem i149_26 : zfetch 149 26 = some (8, .return_, 1) := by decide +kernel
theorem i150_0 : zfetch 150 0 = some (8, .aload_n 0, 1) := by decide +kernel
theorem i150_1 : zfetch 150 1 = some (8, .iload_n 1, 1) := by decide +kernel
theorem i150_2 : zfetch 150 2 = some (8, .iconst 5, 1) := by decide +kernel
theorem i150_3 : zfetch 150 3 = some (8, .aload_n 0, 1) := by decide +kernel
theorem i150_4 : zfetch 150 4 = some (8, .iload_n 1, 1) := by decide +kernel
theorem i150_5 : zfetch 150 5 = some (8, .iconst 5, 1) := by decide +kernel
theorem i150_6 : zfetch 150 6 = some (8, .invokevirtual 54, 3) := by decide +kernel
theorem i150_9 : zfetch 150 9 = some (8, .iconst 1, 1) := by decide +kernel
theorem i150_10 : zfetch 150 10 = some (8, .isub, 1) := by decide +kernel
theorem i150_11 : zfetch 150 11 = some (8, .invokevirtual 149, 3) := by decide +kernel
theorem i150_14 : zfetch 150 14 = some (8, .aload_n 0, 1) := by decide +kernel
theorem i150_15 : zfetch 150 15 = some (8, .iload_n 2, 1) := by decide +kernel
theorem i150_16 : zfetch 150 16 = some (8, .iconst 4, 1) := by decide +kernel
theorem i150_17 : zfetch 150 17 = some (8, .aload_n 0, 1) := by decide +kernel
theorem i150_18 : zfetch 150 18 = some (8, .iload_n 2, 1) := by decide +kernel
theorem i150_19 : zfetch 150 19 = some (8, .iconst 4, 1) := by decide +kernel
theorem i150_20 : zfetch 150 20 = some (8, .invokevirtual 54, 3) := by decide +kernel
theorem i150_23 : zfetch 150 23 = some (8, .iconst 1, 1) := by decide +kernel
theorem i150_24 : zfetch 150 24 = some (8, .iadd, 1) := by decide +kernel
theorem i150_25 : zfetch 150 25 = some (8, .invokevirtual 149, 3) := by decide +kernel
theorem i150_28 : zfetch 150 28 = some (8, .return_, 1) := by decide +kernel
theorem i151_0 : zfetch 151 0 = some (8, .aload_n 0, 1) := by decide +kernel
theorem i151_1 : zfetch 151 1 = some (8, .iload_n 1, 1) := by decide +kernel
theorem i151_2 : zfetch 151 2 = some (8, .iconst 3, 1) := by decide +kernel
theorem i151_3 : zfetch 151 3 = some (8, .aload_n 0, 1) := by decide +kernel
theorem i151_4 : zfetch 151 4 = some (8, .iload_n 1, 1) := by decide +kernel
theorem i151_5 : zfetch 151 5 = some (8, .iconst 3, 1) := by decide +kernel
theorem i151_6 : zfetch 151 6 = some (8, .invokevirtual 54, 3) := by decide +kernel
theorem i151_9 : zfetch 151 9 = some (8, .aload_n 0, 1) := by decide +kernel
theorem i151_10 : zfetch 151 10 = some (8, .iload_n 1, 1) := by decide +kernel
theorem i151_11 : zfetch 151 11 = some (8, .iconst 3, 1) := by decide +kernel
theorem i151_12 : zfetch 151 12 = some (8, .invokevirtual 54, 3) := by decide +kernel
theorem i151_15 : zfetch 151 15 = some (8, .aload_n 0, 1) := by decide +kernel
theorem i151_16 : zfetch 151 16 = some (8, .iload_n 2, 1) := by decide +kernel
theorem i151_17 : zfetch 151 17 = some (8, .iconst 3, 1) := by decide +kernel
theorem i151_18 : zfetch 151 18 = some (8, .invokevirtual 54, 3) := by decide +kernel
theorem i151_21 : zfetch 151 21 = some (8, .if_icmp .ge 7, 3) := by decide +kernel
theorem i151_24 : zfetch 151 24 = some (8, .iconst 1, 1) := by decide +kernel
theorem i151_25 : zfetch 151 25 = some (8, .goto 4, 3) := by decide +kernel
theorem i151_28 : zfetch 151 28 = some (8, .iconst (-1), 1) := by decide +kernel
theorem i151_29 : zfetch 151 29 = some (8, .iadd, 1) := by decide +kernel
theorem i151_30 : zfetch 151 30 = some (8, .invokevirtual 149, 3) := by decide +kernel
theorem i151_33 : zfetch 151 33 = some (8, .aload_n 0, 1) := by decide +kernel
theorem i151_34 : zfetch 151 34 = some (8, .dup, 1) := by decide +kernel
theorem i151_35 : zfetch 151 35 = some (8, .getfield 157, 3) := by decide +kernel
theorem i151_38 : zfetch 151 38 = some (8, .iconst 1, 1) := by decide +kernel
theorem i151_39 : zfetch 151 39 = some (8, .iload_n 1, 1) := by decide +kernel
theorem i151_40 : zfetch 151 40 = some (8, .ishl, 1) := by decide +kernel
theorem i151_41 : zfetch 151 41 = some (8, .ior, 1) := by decide +kernel
theorem i151_42 : zfetch 151 42 = some (8, .putfield 157, 3) := by decide +kernel
theorem i151_45 : zfetch 151 45 = some (8, .return_, 1) := by decide +kernel
theorem i152_0 : zfetch 152 0 = some (8, .aload_n 0, 1) := by decide +kernel
theorem i152_1 : zfetch 152 1 = some (8, .iload_n 1, 1) := by decide +kernel
theorem i152_2 : zfetch 152 2 = some (8, .iconst 2, 1) := by decide +kernel
theorem i152_3 : zfetch 152 3 = some (8, .invokevirtual 54, 3) := by decide +kernel
theorem i152_6 : zfetch 152 6 = some (8, .istore_n 2, 1) := by decide +kernel
theorem i152_7 : zfetch 152 7 = some (8, .aload_n 0, 1) := by decide +kernel
theorem i152_8 : zfetch 152 8 = some (8, .getfield 157, 3) := by decide +kernel
theorem i152_11 : zfetch 152 11 = some (8, .iload_n 1, 1) := by decide +kernel
theorem i152_12 : zfetch 152 12 = some (8, .ishr, 1) := by decide +kernel
theorem i152_13 : zfetch 152 13 = some (8, .iconst 1, 1) := by decide +kernel
theorem i152_14 : zfetch 152 14 = some (8, .iand, 1) := by decide +kernel
theorem i152_15 : zfetch 152 15 = some (8, .iconst 1, 1) := by decide +kernel
theorem i152_16 : zfetch 152 16 = some (8, .if_icmp .ne 7, 3) := by decide +kernel
theorem i152_19 : zfetch 152 19 = some (8, .iconst 1, 1) := by decide +kernel
theorem i152_20 : zfetch 152 20 = some (8, .goto 4, 3) := by decide +kernel
theorem i152_23 : zfetch 152 23 = some (8, .iconst 0, 1) := by decide +kernel
theorem i152_24 : zfetch 152 24 = some (8, .istore_n 3, 1) := by decide +kernel
theorem i152_25 : zfetch 152 25 = some (8, .aload_n 0, 1) := by decide +kernel
theorem i152_26 : zfetch 152 26 = some (8, .getfield 157, 3) := by decide +kernel
theorem i152_29 : zfetch 152 29 = some (8, .iload_n 2, 1) := by decide +kernel
theorem i152_30 : zfetch 152 30 = some (8, .ishr, 1) := by decide +kernel
theorem i152_31 : zfetch 152 31 = some (8, .iconst 1, 1) := by decide +kernel
theorem i152_32 : zfetch 152 32 = some (8, .iand, 1) := by decide +kernel
theorem i152_33 : zfetch 152 33 = some (8, .iconst 1, 1) := by decide +kernel
theorem i152_34 : zfetch 152 34 = some (8, .if_icmp .ne 7, 3) := by decide +kernel
theorem i152_37 : zfetch 152 37 = some (8, .iconst 1, 1) := by decide +kernel
theorem i152_38 : zfetch 152 38 = some (8, .goto 4, 3) := by decide +kernel
theorem i152_41 : zfetch 152 41 = some (8, .iconst 0, 1) := by decide +kernel
theorem i152_42 : zfetch 152 42 = some (8, .istore 4, 2) := by decide +kernel
theorem i152_44 : zfetch 152 44 = some (8, .aload_n 0, 1) := by decide +kernel
theorem i152_45 : zfetch 152 45 = some (8, .iload_n 1, 1) := by decide +kernel
theorem i152_46 : zfetch 152 46 = some (8, .iconst 5, 1) := by decide +kernel
theorem i152_47 : zfetch 152 47 = some (8, .invokevirtual 54, 3) := by decide +kernel
theorem i152_50 : zfetch 152 50 = some (8, .ifCond .le 11, 3) := by decide +kernel
theorem i152_53 : zfetch 152 53 = some (8, .aload_n 0, 1) := by decide +kernel
theorem i152_54 : zfetch 152 54 = some (8, .iload_n 1, 1) := by decide +kernel
theorem i152_55 : zfetch 152 55 = some (8, .iload_n 1, 1) := by decide +kernel
theorem i152_56 : zfetch 152 56 = some (8, .invokevirtual 160, 3) := by decide +kernel
theorem i152_59 : zfetch 152 59 = some (8, .iconst 1, 1) := by decide +kernel
theorem i152_60 : zfetch 152 60 = some (8, .ireturn, 1) := by decide +kernel
theorem i152_61 : zfetch 152 61 = some (8, .iload_n 3, 1) := by decide +kernel
theorem i152_62 : zfetch 152 62 = some (8, .ifCond .eq 15, 3) := by decide +kernel
theorem i152_65 : zfetch 152 65 = some (8, .iload 4, 2) := by decide +kernel
theorem i152_67 : zfetch 152 67 = some (8, .ifCond .eq 10, 3) := by decide +kernel
theorem i152_70 : zfetch 152 70 = some (8, .aload_n 0, 1) := by decide +kernel
theorem i152_71 : zfetch 152 71 = some (8, .iload_n 1, 1) := by decide +kernel
theorem i152_72 : zfetch 152 72 = some (8, .invokevirtual 163, 3) := by decide +kernel
theorem i152_75 : zfetch 152 75 = some (8, .iconst 1, 1) := by decide +kernel
theorem i152_76 : zfetch 152 76 = some (8, .ireturn, 1) := by decide +kernel
theorem i152_77 : zfetch 152 77 = some (8, .iload_n 3, 1) := by decide +kernel
theorem i152_78 : zfetch 152 78 = some (8, .ifCond .eq 7, 3) := by decide +kernel
theorem i152_81 : zfetch 152 81 = some (8, .iload_n 2, 1) := by decide +kernel
theorem i152_82 : zfetch 152 82 = some (8, .goto 4, 3) := by decide +kernel
theorem i152_85 : zfetch 152 85 = some (8, .iload_n 1, 1) := by decide +kernel
theorem i152_86 : zfetch 152 86 = some (8, .istore 5, 2) := by decide +kernel
theorem i152_88 : zfetch 152 88 = some (8, .aload_n 0, 1) := by decide +kernel
theorem i152_89 : zfetch 152 89 = some (8, .iload 5, 2) := by decide +kernel
theorem i152_91 : zfetch 152 91 = some (8, .invokevirtual 166, 3) := by decide +kernel
theorem i152_94 : zfetch 152 94 = some (8, .istore 6, 2) := by decide +kernel
theorem i152_96 : zfetch 152 96 = some (8, .iload 6, 2) := by decide +kernel
theorem i152_98 : zfetch 152 98 = some (8, .iconst 1, 1) := by decide +kernel
theorem i152_99 : zfetch 152 99 = some (8, .if_icmp .ne 11, 3) := by decide +kernel
theorem i152_102 : zfetch 152 102 = some (8, .aload_n 0, 1) := by decide +kernel
theorem i152_103 : zfetch 152 103 = some (8, .iload_n 1, 1) := by decide +kernel
theorem i152_104 : zfetch 152 104 = some (8, .invokevirtual 163, 3) := by decide +kernel
theorem i152_107 : zfetch 152 107 = some (8, .goto 54, 3) := by decide +kernel
theorem i152_110 : zfetch 152 110 = some (8, .iload 6, 2) := by decide +kernel
theorem i152_112 : zfetch 152 112 = some (8, .iconst 3, 1) := by decide +kernel
theorem i152_113 : zfetch 152 113 = some (8, .if_icmp .ne 27, 3) := by decide +kernel
theorem i152_116 : zfetch 152 116 = some (8, .iload 5, 2) := by decide +kernel
theorem i152_118 : zfetch 152 118 = some (8, .iload_n 2, 1) := by decide +kernel
theorem i152_119 : zfetch 152 119 = some (8, .if_icmp .ne 21, 3) := by decide +kernel
theorem i152_122 : zfetch 152 122 = some (8, .aload_n 0, 1) := by decide +kernel
theorem i152_123 : zfetch 152 123 = some (8, .iload_n 2, 1) := by decide +kernel
theorem i152_124 : zfetch 152 124 = some (8, .iconst 5, 1) := by decide +kernel
theorem i152_125 : zfetch 152 125 = some (8, .invokevirtual 54, 3) := by decide +kernel
theorem i152_128 : zfetch 152 128 = some (8, .ifCond .le 12, 3) := by decide +kernel
theorem i152_131 : zfetch 152 131 = some (8, .aload_n 0, 1) := by decide +kernel
theorem i152_132 : zfetch 152 132 = some (8, .iload_n 2, 1) := by decide +kernel
theorem i152_133 : zfetch 152 133 = some (8, .iload_n 1, 1) := by decide +kernel
theorem i152_134 : zfetch 152 134 = some (8, .invokevirtual 160, 3) := by decide +kernel
theorem i152_137 : zfetch 152 137 = some (8, .goto 24, 3) := by decide +kernel
theorem i152_140 : zfetch 152 140 = some (8, .iload 6, 2) := by decide +kernel
theorem i152_142 : zfetch 152 142 = some (8, .iconst 2, 1) := by decide +kernel
theorem i152_143 : zfetch 152 143 = some (8, .if_icmp .eq 18, 3) := by decide +kernel
theorem i152_146 : zfetch 152 146 = some (8, .aload_n 0, 1) := by decide +kernel
theorem i152_147 : zfetch 152 147 = some (8, .iload 5, 2) := by decide +kernel
theorem i152_149 : zfetch 152 149 = some (8, .iload_n 3, 1) := by decide +kernel
theorem i152_150 : zfetch 152 150 = some (8, .ifCond .eq 7, 3) := by decide +kernel
theorem i152_153 : zfetch 152 153 = some (8, .iload_n 1, 1) := by decide +kernel
theorem i152_154 : zfetch 152 154 = some (8, .goto 4, 3) := by decide +kernel
theorem i152_157 : zfetch 152 157 = some (8, .iload_n 2, 1) := by decide +kernel
theorem i152_158 : zfetch 152 158 = some (8, .invokevirtual 169, 3) := by decide +kernel
theorem i152_161 : zfetch 152 161 = some (8, .iload 6, 2) := by decide +kernel
theorem i152_163 : zfetch 152 163 = some (8, .iconst 2, 1) := by decide +kernel
theorem i152_164 : zfetch 152 164 = some (8, .if_icmp .eq 7, 3) := by decide +kernel
theorem i152_167 : zfetch 152 167 = some (8, .iconst 1, 1) := by decide +kernel
theorem i152_168 : zfetch 152 168 = some (8, .goto 4, 3) := by decide +kernel
theorem i152_171 : zfetch 152 171 = some (8, .iconst 0, 1) := by decide +kernel
theorem i152_172 : zfetch 152 172 = some (8, .ireturn, 1) := by decide +kernel
theorem i153_0 : zfetch 153 0 = some (8, .aload_n 0, 1) := by decide +kernel
theorem i153_1 : zfetch 153 1 = some (8, .iload_n 1, 1) := by decide +kernel
theorem i153_2 : zfetch 153 2 = some (8, .iconst 3, 1) := by decide +kernel
theorem i153_3 : zfetch 153 3 = some (8, .invokevirtual 54, 3) := by decide +kernel
theorem i153_6 : zfetch 153 6 = some (8, .iload_n 2, 1) := by decide +kernel
theorem i153_7 : zfetch 153 7 = some (8, .ifCond .ne 7, 3) := by decide +kernel
theorem i153_10 : zfetch 153 10 = some (8, .iconst (-1), 1) := by decide +kernel
theorem i153_11 : zfetch 153 11 = some (8, .goto 4, 3) := by decide +kernel
theorem i153_14 : zfetch 153 14 = some (8, .iconst 1, 1) := by decide +kernel
theorem i153_15 : zfetch 153 15 = some (8, .iadd, 1) := by decide +kernel
theorem i153_16 : zfetch 153 16 = some (8, .istore_n 3, 1) := by decide +kernel
theorem i153_17 : zfetch 153 17 = some (8, .iload_n 3, 1) := by decide +kernel
theorem i153_18 : zfetch 153 18 = some (8, .invokestatic 172, 3) := by decide +kernel
theorem i153_21 : zfetch 153 21 = some (8, .ifCond .ne 5, 3) := by decide +kernel
theorem i153_24 : zfetch 153 24 = some (8, .iconst 0, 1) := by decide +kernel
theorem i153_25 : zfetch 153 25 = some (8, .ireturn, 1) := by decide +kernel
theorem i153_26 : zfetch 153 26 = some (8, .iconst 0, 1) := by decide +kernel
theorem i153_27 : zfetch 153 27 = some (8, .istore 4, 2) := by decide +kernel
theorem i153_29 : zfetch 153 29 = some (8, .iload 4, 2) := by decide +kernel
theorem i153_31 : zfetch 153 31 = some (8, .bipush 60, 2) := by decide +kernel
theorem i153_33 : zfetch 153 33 = some (8, .if_icmp .ge 23, 3) := by decide +kernel
theorem i153_36 : zfetch 153 36 = some (8, .aload_n 0, 1) := by decide +kernel
theorem i153_37 : zfetch 153 37 = some (8, .getfield 19, 3) := by decide +kernel
theorem i153_40 : zfetch 153 40 = some (8, .iload 4, 2) := by decide +kernel
theorem i153_42 : zfetch 153 42 = some (8, .aload_n 0, 1) := by decide +kernel
theorem i153_43 : zfetch 153 43 = some (8, .getfield 7, 3) := by decide +kernel
theorem i153_46 : zfetch 153 46 = some (8, .iload 4, 2) := by decide +kernel
theorem i153_48 : zfetch 153 48 = some (8, .iaload, 1) := by decide +kernel
theorem i153_49 : zfetch 153 49 = some (8, .iastore, 1) := by decide +kernel
theorem i153_50 : zfetch 153 50 = some (8, .iinc 4 1, 3) := by decide +kernel
theorem i153_53 : zfetch 153 53 = some (8, .goto (-24), 3) := by decide +kernel
theorem i153_56 : zfetch 153 56 = some (8, .aload_n 0, 1) := by decide +kernel
theorem i153_57 : zfetch 153 57 = some (8, .iload_n 1, 1) := by decide +kernel
theorem i153_58 : zfetch 153 58 = some (8, .iconst 3, 1) := by decide +kernel
theorem i153_59 : zfetch 153 59 = some (8, .iload_n 3, 1) := by decide +kernel
theorem i153_60 : zfetch 153 60 = some (8, .invokevirtual 149, 3) := by decide +kernel
theorem i153_63 : zfetch 153 63 = some (8, .aload_n 0, 1) := by decide +kernel
theorem i153_64 : zfetch 153 64 = some (8, .iconst 1, 1) := by decide +kernel
theorem i153_65 : zfetch 153 65 = some (8, .iload_n 1, 1) := by decide +kernel
theorem i153_66 : zfetch 153 66 = some (8, .ishl, 1) := by decide +kernel
theorem i153_67 : zfetch 153 67 = some (8, .putfield 157, 3) := by decide +kernel
theorem i153_70 : zfetch 153 70 = some (8, .iconst 1, 1) := by decide +kernel
theorem i153_71 : zfetch 153 71 = some (8, .istore 4, 2) := by decide +kernel
theorem i153_73 : zfetch 153 73 = some (8, .aload_n 0, 1) := by decide +kernel
theorem i153_74 : zfetch 153 74 = some (8, .invokevirtual 175, 3) := by decide +kernel
theorem i153_77 : zfetch 153 77 = some (8, .istore 5, 2) := by decide +kernel
theorem i153_79 : zfetch 153 79 = some (8, .iload 5, 2) := by decide +kernel
theorem i153_81 : zfetch 153 81 = some (8, .ifCond .lt 25, 3) := by decide +kernel
theorem i153_84 : zfetch 153 84 = some (8, .iload 4, 2) := by decide +kernel
theorem i153_86 : zfetch 153 86 = some (8, .ifCond .eq 20, 3) := by decide +kernel
theorem i153_89 : zfetch 153 89 = some (8, .aload_n 0, 1) := by decide +kernel
theorem i153_90 : zfetch 153 90 = some (8, .iload 5, 2) := by decide +kernel
theorem i153_92 : zfetch 153 92 = some (8, .invokevirtual 178, 3) := by decide +kernel
theorem i153_95 : zfetch 153 95 = some (8, .istore 4, 2) := by decide +kernel
theorem i153_97 : zfetch 153 97 = some (8, .aload_n 0, 1) := by decide +kernel
theorem i153_98 : zfetch 153 98 = some (8, .invokevirtual 175, 3) := by decide +kernel
theorem i153_101 : zfetch 153 101 = some (8, .istore 5, 2) := by decide +kernel
theorem i153_103 : zfetch 153 103 = some (8, .goto (-24), 3) := by decide +kernel
theorem i153_106 : zfetch 153 106 = some (8, .iconst 0, 1) := by decide +kernel
theorem i153_107 : zfetch 153 107 = some (8, .istore 5, 2) := by decide +kernel
theorem i153_109 : zfetch 153 109 = some (8, .iload 5, 2) := by decide +kernel
theorem i153_111 : zfetch 153 111 = some (8, .bipush 60, 2) := by decide +kernel
theorem i153_113 : zfetch 153 113 = some (8, .if_icmp .ge 28, 3) := by decide +kernel
theorem i153_116 : zfetch 153 116 = some (8, .iload 4, 2) := by decide +kernel
theorem i153_118 : zfetch 153 118 = some (8, .ifCond .ne 23, 3) := by decide +kernel
theorem i153_121 : zfetch 153 121 = some (8, .aload_n 0, 1) := by decide +kernel
theorem i153_122 : zfetch 153 122 = some (8, .getfield 7, 3) := by decide +kernel
theorem i153_125 : zfetch 153 125 = some (8, .iload 5, 2) := by decide +kernel
theorem i153_127 : zfetch 153 127 = some (8, .aload_n 0, 1) := by decide +kernel
theorem i153_128 : zfetch 153 128 = some (8, .getfield 19, 3) := by decide +kernel
theorem i153_131 : zfetch 153 131 = some (8, .iload 5, 2) := by decide +kernel
theorem i153_133 : zfetch 153 133 = some (8, .iaload, 1) := by decide +kernel
theorem i153_134 : zfetch 153 134 = some (8, .iastore, 1) := by decide +kernel
theorem i153_135 : zfetch 153 135 = some (8, .iinc 5 1, 3) := by decide +kernel
theorem i153_138 : zfetch 153 138 = some (8, .goto (-29), 3) := by decide +kernel
theorem i153_141 : zfetch 153 141 = some (8, .iload 4, 2) := by decide +kernel
theorem i153_143 : zfetch 153 143 = some (8, .ireturn, 1) := by decide +kernel
theorem i154_0 : zfetch 154 0 = some (8, .aload_n 0, 1) := by decide +kernel
theorem i154_1 : zfetch 154 1 = some (8, .getfield 7, 3) := by decide +kernel
theorem i154_4 : zfetch 154 4 = some (8, .bipush 6, 2) := by decide +kernel
theorem i154_6 : zfetch 154 6 = some (8, .aload_n 0, 1) := by decide +kernel
theorem i154_7 : zfetch 154 7 = some (8, .getfield 7, 3) := by decide +kernel
theorem i154_10 : zfetch 154 10 = some (8, .iconst 0, 1) := by decide +kernel
theorem i154_11 : zfetch 154 11 = some (8, .iaload, 1) := by decide +kernel
theorem i154_12 : zfetch 154 12 = some (8, .bipush 6, 2) := by decide +kernel
theorem i154_14 : zfetch 154 14 = some (8, .irem, 1) := by decide +kernel
theorem i154_15 : zfetch 154 15 = some (8, .iadd, 1) := by decide +kernel
theorem i154_16 : zfetch 154 16 = some (8, .iaload, 1) := by decide +kernel
theorem i154_17 : zfetch 154 17 = some (8, .istore_n 1, 1) := by decide +kernel
theorem i154_18 : zfetch 154 18 = some (8, .iload_n 1, 1) := by decide +kernel
theorem i154_19 : zfetch 154 19 = some (8, .bipush 10, 2) := by decide +kernel
theorem i154_21 : zfetch 154 21 = some (8, .idiv, 1) := by decide +kernel
theorem i154_22 : zfetch 154 22 = some (8, .istore_n 2, 1) := by decide +kernel
theorem i154_23 : zfetch 154 23 = some (8, .iload_n 2, 1) := by decide +kernel
theorem i154_24 : zfetch 154 24 = some (8, .aload_n 0, 1) := by decide +kernel
theorem i154_25 : zfetch 154 25 = some (8, .getfield 7, 3) := by decide +kernel
theorem i154_28 : zfetch 154 28 = some (8, .iconst 4, 1) := by decide +kernel
theorem i154_29 : zfetch 154 29 = some (8, .iaload, 1) := by decide +kernel
theorem i154_30 : zfetch 154 30 = some (8, .if_icmp .ge 43, 3) := by decide +kernel
theorem i154_33 : zfetch 154 33 = some (8, .aload_n 0, 1) := by decide +kernel
theorem i154_34 : zfetch 154 34 = some (8, .iload_n 2, 1) := by decide +kernel
theorem i154_35 : zfetch 154 35 = some (8, .invokevirtual 181, 3) := by decide +kernel
theorem i154_38 : zfetch 154 38 = some (8, .istore_n 3, 1) := by decide +kernel
theorem i154_39 : zfetch 154 39 = some (8, .iconst 1, 1) := by decide +kernel
theorem i154_40 : zfetch 154 40 = some (8, .istore 4, 2) := by decide +kernel
theorem i154_42 : zfetch 154 42 = some (8, .iconst 0, 1) := by decide +kernel
theorem i154_43 : zfetch 154 43 = some (8, .istore 5, 2) := by decide +kernel
theorem i154_45 : zfetch 154 45 = some (8, .iload 5, 2) := by decide +kernel
theorem i154_47 : zfetch 154 47 = some (8, .iload_n 3, 1) := by decide +kernel
theorem i154_48 : zfetch 154 48 = some (8, .if_icmp .ge 25, 3) := by decide +kernel
theorem i154_51 : zfetch 154 51 = some (8, .iload 4, 2) := by decide +kernel
theorem i154_53 : zfetch 154 53 = some (8, .ifCond .eq 20, 3) := by decide +kernel
theorem i154_56 : zfetch 154 56 = some (8, .aload_n 0, 1) := by decide +kernel
theorem i154_57 : zfetch 154 57 = some (8, .iload_n 2, 1) := by decide +kernel
theorem i154_58 : zfetch 154 58 = some (8, .iload_n 1, 1) := by decide +kernel
theorem i154_59 : zfetch 154 59 = some (8, .bipush 10, 2) := by decide +kernel
theorem i154_61 : zfetch 154 61 = some (8, .irem, 1) := by decide +kernel
theorem i154_62 : zfetch 154 62 = some (8, .invokevirtual 184, 3) := by decide +kernel
theorem i154_65 : zfetch 154 65 = some (8, .istore 4, 2) := by decide +kernel
theorem i154_67 : zfetch 154 67 = some (8, .iinc 5 1, 3) := by decide +kernel
theorem i154_70 : zfetch 154 70 = some (8, .goto (-25), 3) := by decide +kernel
theorem i154_73 : zfetch 154 73 = some (8, .aload_n 0, 1) := by decide +kernel
theorem i154_74 : zfetch 154 74 = some (8, .getfield 7, 3) := by decide +kernel
theorem i154_77 : zfetch 154 77 = some (8, .iconst 0, 1) := by decide +kernel
theorem i154_78 : zfetch 154 78 = some (8, .dup2, 1) := by decide +kernel
theorem i154_79 : zfetch 154 79 = some (8, .iaload, 1) := by decide +kernel
theorem i154_80 : zfetch 154 80 = some (8, .iconst 1, 1) := by decide +kernel
theorem i154_81 : zfetch 154 81 = some (8, .iadd, 1) := by decide +kernel
theorem i154_82 : zfetch 154 82 = some (8, .iastore, 1) := by decide +kernel
theorem i154_83 : zfetch 154 83 = some (8, .return_, 1) := by decide +kernel
theorem i155_0 : zfetch 155 0 = some (8, .iconst 0, 1) := by decide +kernel
theorem i155_1 : zfetch 155 1 = some (8, .istore_n 2, 1) := by decide +kernel
theorem i155_2 : zfetch 155 2 = some (8, .iload_n 2, 1) := by decide +kernel
theorem i155_3 : zfetch 155 3 = some (8, .iload_n 1, 1) := by decide +kernel
theorem i155_4 : zfetch 155 4 = some (8, .if_icmp .ge 13, 3) := by decide +kernel
theorem i155_7 : zfetch 155 7 = some (8, .aload_n 0, 1) := by decide +kernel
theorem i155_8 : zfetch 155 8 = some (8, .invokevirtual 188, 3) := by decide +kernel
theorem i155_11 : zfetch 155 11 = some (8, .iinc 2 1, 3) := by decide +kernel
theorem i155_14 : zfetch 155 14 = some (8, .goto (-12), 3) := by decide +kernel
theorem i155_17 : zfetch 155 17 = some (8, .return_, 1) := by decide +kernel
theorem i156_0 : zfetch 156 0 = some (8, .iconst 0, 1) := by decide +kernel
theorem i156_1 : zfetch 156 1 = some (8, .istore_n 1, 1) := by decide +kernel
theorem i156_2 : zfetch 156 2 = some (8, .iconst 0, 1) := by decide +kernel
theorem i156_3 : zfetch 156 3 = some (8, .istore_n 2, 1) := by decide +kernel
theorem i156_4 : zfetch 156 4 = some (8, .iload_n 2, 1) := by decide +kernel
theorem i156_5 : zfetch 156 5 = some (8, .aload_n 0, 1) := by decide +kernel
theorem i156_6 : zfetch 156 6 = some (8, .getfield 7, 3) := by decide +kernel
theorem i156_9 : zfetch 156 9 = some (8, .iconst 4, 1) := by decide +kernel
theorem i156_10 : zfetch 156 10 = some (8, .iaload, 1) := by decide +kernel
theorem i156_11 : zfetch 156 11 = some (8, .if_icmp .ge 27, 3) := by decide +kernel
theorem i156_14 : zfetch 156 14 = some (8, .iload_n 1, 1) := by decide +kernel
theorem i156_15 : zfetch 156 15 = some (8, .aload_n 0, 1) := by decide +kernel
theorem i156_16 : zfetch 156 16 = some (8, .iload_n 2, 1) := by decide +kernel
theorem i156_17 : zfetch 156 17 = some (8, .invokevirtual 140, 3) := by decide +kernel
theorem i156_20 : zfetch 156 20 = some (8, .ifCond .eq 9, 3) := by decide +kernel
theorem i156_23 : zfetch 156 23 = some (8, .iconst 1, 1) := by decide +kernel
theorem i156_24 : zfetch 156 24 = some (8, .iload_n 2, 1) := by decide +kernel
theorem i156_25 : zfetch 156 25 = some (8, .ishl, 1) := by decide +kernel
theorem i156_26 : zfetch 156 26 = some (8, .goto 4, 3) := by decide +kernel
theorem i156_29 : zfetch 156 29 = some (8, .iconst 0, 1) := by decide +kernel
theorem i156_30 : zfetch 156 30 = some (8, .ior, 1) := by decide +kernel
theorem i156_31 : zfetch 156 31 = some (8, .istore_n 1, 1) := by decide +kernel
theorem i156_32 : zfetch 156 32 = some (8, .iinc 2 1, 3) := by decide +kernel
theorem i156_35 : zfetch 156 35 = some (8, .goto (-31), 3) := by decide +kernel
theorem i156_38 : zfetch 156 38 = some (8, .iload_n 1, 1) := by decide +kernel
theorem i156_39 : zfetch 156 39 = some (8, .ireturn, 1) := by decide +kernel
theorem i157_0 : zfetch 157 0 = some (8, .iconst 0, 1) := by decide +kernel
theorem i157_1 : zfetch 157 1 = some (8, .istore_n 2, 1) := by decide +kernel
theorem i157_2 : zfetch 157 2 = some (8, .iconst 0, 1) := by decide +kernel
theorem i157_3 : zfetch 157 3 = some (8, .istore_n 3, 1) := by decide +kernel
theorem i157_4 : zfetch 157 4 = some (8, .iload_n 3, 1) := by decide +kernel
theorem i157_5 : zfetch 157 5 = some (8, .aload_n 0, 1) := by decide +kernel
theorem i157_6 : zfetch 157 6 = some (8, .getfield 7, 3) := by decide +kernel
theorem i157_9 : zfetch 157 9 = some (8, .iconst 4, 1) := by decide +kernel
theorem i157_10 : zfetch 157 10 = some (8, .iaload, 1) := by decide +kernel
theorem i157_11 : zfetch 157 11 = some (8, .if_icmp .ge 18, 3) := by decide +kernel
theorem i157_14 : zfetch 157 14 = some (8, .iload_n 2, 1) := by decide +kernel
theorem i157_15 : zfetch 157 15 = some (8, .aload_n 0, 1) := by decide +kernel
theorem i157_16 : zfetch 157 16 = some (8, .iload_n 3, 1) := by decide +kernel
theorem i157_17 : zfetch 157 17 = some (8, .iload_n 1, 1) := by decide +kernel
theorem i157_18 : zfetch 157 18 = some (8, .invokevirtual 54, 3) := by decide +kernel
theorem i157_21 : zfetch 157 21 = some (8, .iadd, 1) := by decide +kernel
theorem i157_22 : zfetch 157 22 = some (8, .istore_n 2, 1) := by decide +kernel
theorem i157_23 : zfetch 157 23 = some (8, .iinc 3 1, 3) := by decide +kernel
theorem i157_26 : zfetch 157 26 = some (8, .goto (-22), 3) := by decide +kernel
theorem i157_29 : zfetch 157 29 = some (8, .iload_n 2, 1) := by decide +kernel
theorem i157_30 : zfetch 157 30 = some (8, .ireturn, 1) := by decide +kernel
theorem i158_0 : zfetch 158 0 = some (8, .iload_n 0, 1) := by decide +kernel
theorem i158_1 : zfetch 158 1 = some (8, .iconst 0, 1) := by decide +kernel
theorem i158_2 : zfetch 158 2 = some (8, .bipush 69, 2) := by decide +kernel
theorem i158_4 : zfetch 158 4 = some (8, .invokestatic 50, 3) := by decide +kernel
theorem i158_7 : zfetch 158 7 = some (8, .ireturn, 1) := by decide +kernel
theorem i159_0 : zfetch 159 0 = some (8, .iload_n 1, 1) := by decide +kernel
theorem i159_1 : zfetch 159 1 = some (8, .invokestatic 191, 3) := by decide +kernel
theorem i159_4 : zfetch 159 4 = some (8, .ifCond .eq 37, 3) := by decide +kernel
theorem i159_7 : zfetch 159 7 = some (8, .iload_n 2, 1) := by decide +kernel
theorem i159_8 : zfetch 159 8 = some (8, .iconst (-1), 1) := by decide +kernel
theorem i159_9 : zfetch 159 9 = some (8, .aload_n 0, 1) := by decide +kernel
theorem i159_10 : zfetch 159 10 = some (8, .getfield 7, 3) := by decide +kernel
theorem i159_13 : zfetch 159 13 = some (8, .iconst 4, 1) := by decide +kernel
theorem i159_14 : zfetch 159 14 = some (8, .iaload, 1) := by decide +kernel
theorem i159_15 : zfetch 159 15 = some (8, .iconst 1, 1) := by decide +kernel
theorem i159_16 : zfetch 159 16 = some (8, .isub, 1) := by decide +kernel
theorem i159_17 : zfetch 159 17 = some (8, .invokestatic 50, 3) := by decide +kernel
theorem i159_20 : zfetch 159 20 = some (8, .ifCond .eq 21, 3) := by decide +kernel
theorem i159_23 : zfetch 159 23 = some (8, .iload_n 3, 1) := by decide +kernel
theorem i159_24 : zfetch 159 24 = some (8, .invokestatic 172, 3) := by decide +kernel
theorem i159_27 : zfetch 159 27 = some (8, .ifCond .eq 14, 3) := by decide +kernel
theorem i159_30 : zfetch 159 30 = some (8, .iload 4, 2) := by decide +kernel
theorem i159_32 : zfetch 159 32 = some (8, .iconst 0, 1) := by decide +kernel
theorem i159_33 : zfetch 159 33 = some (8, .bipush 99, 2) := by decide +kernel
theorem i159_35 : zfetch 159 35 = some (8, .invokestatic 50, 3) := by decide +kernel
theorem i159_38 : zfetch 159 38 = some (8, .ifCond .ne 9, 3) := by decide +kernel
theorem i159_41 : zfetch 159 41 = some (8, .aload_n 0, 1) := by decide +kernel
theorem i159_42 : zfetch 159 42 = some (8, .iconst 1, 1) := by decide +kernel
theorem i159_43 : zfetch 159 43 = some (8, .invokevirtual 58, 3) := by decide +kernel
theorem i159_46 : zfetch 159 46 = some (8, .ireturn, 1) := by decide +kernel
theorem i159_47 : zfetch 159 47 = some (8, .aload_n 0, 1) := by decide +kernel
theorem i159_48 : zfetch 159 48 = some (8, .getfield 7, 3) := by decide +kernel
theorem i159_51 : zfetch 159 51 = some (8, .iconst 4, 1) := by decide +kernel
theorem i159_52 : zfetch 159 52 = some (8, .iaload, 1) := by decide +kernel
theorem i159_53 : zfetch 159 53 = some (8, .bipush 8, 2) := by decide +kernel
theorem i159_55 : zfetch 159 55 = some (8, .if_icmp .ne 9, 3) := by decide +kernel
theorem i159_58 : zfetch 159 58 = some (8, .aload_n 0, 1) := by decide +kernel
theorem i159_59 : zfetch 159 59 = some (8, .iconst 4, 1) := by decide +kernel
theorem i159_60 : zfetch 159 60 = some (8, .invokevirtual 58, 3) := by decide +kernel
theorem i159_63 : zfetch 159 63 = some (8, .ireturn, 1) := by decide +kernel
theorem i159_64 : zfetch 159 64 = some (8, .aload_n 0, 1) := by decide +kernel
theorem i159_65 : zfetch 159 65 = some (8, .getfield 7, 3) := by decide +kernel
theorem i159_68 : zfetch 159 68 = some (8, .iconst 4, 1) := by decide +kernel
theorem i159_69 : zfetch 159 69 = some (8, .iaload, 1) := by decide +kernel
theorem i159_70 : zfetch 159 70 = some (8, .istore 5, 2) := by decide +kernel
theorem i159_72 : zfetch 159 72 = some (8, .aload_n 0, 1) := by decide +kernel
theorem i159_73 : zfetch 159 73 = some (8, .iload 5, 2) := by decide +kernel
theorem i159_75 : zfetch 159 75 = some (8, .iconst 0, 1) := by decide +kernel
theorem i159_76 : zfetch 159 76 = some (8, .iload_n 1, 1) := by decide +kernel
theorem i159_77 : zfetch 159 77 = some (8, .bipush 10, 2) := by decide +kernel
theorem i159_79 : zfetch 159 79 = some (8, .idiv, 1) := by decide +kernel
theorem i159_80 : zfetch 159 80 = some (8, .invokevirtual 149, 3) := by decide +kernel
theorem i159_83 : zfetch 159 83 = some (8, .aload_n 0, 1) := by decide +kernel
theorem i159_84 : zfetch 159 84 = some (8, .iload 5, 2) := by decide +kernel
theorem i159_86 : zfetch 159 86 = some (8, .iconst 1, 1) := by decide +kernel
theorem i159_87 : zfetch 159 87 = some (8, .iload_n 1, 1) := by decide +kernel
theorem i159_88 : zfetch 159 88 = some (8, .bipush 10, 2) := by decide +kernel
theorem i159_90 : zfetch 159 90 = some (8, .irem, 1) := by decide +kernel
theorem i159_91 : zfetch 159 91 = some (8, .invokevirtual 149, 3) := by decide +kernel
theorem i159_94 : zfetch 159 94 = some (8, .aload_n 0, 1) := by decide +kernel
theorem i159_95 : zfetch 159 95 = some (8, .iload 5, 2) := by decide +kernel
theorem i159_97 : zfetch 159 97 = some (8, .iconst 2, 1) := by decide +kernel
theorem i159_98 : zfetch 159 98 = some (8, .iload_n 2, 1) := by decide +kernel
theorem i159_99 : zfetch 159 99 = some (8, .invokevirtual 149, 3) := by decide +kernel
theorem i159_102 : zfetch 159 102 = some (8, .aload_n 0, 1) := by decide +kernel
theorem i159_103 : zfetch 159 103 = some (8, .iload 5, 2) := by decide +kernel
theorem i159_105 : zfetch 159 105 = some (8, .iconst 3, 1) := by decide +kernel
theorem i159_106 : zfetch 159 106 = some (8, .iload_n 3, 1) := by decide +kernel
theorem i159_107 : zfetch 159 107 = some (8, .invokevirtual 149, 3) := by decide +kernel
theorem i159_110 : zfetch 159 110 = some (8, .aload_n 0, 1) := by decide +kernel
theorem i159_111 : zfetch 159 111 = some (8, .iload 5, 2) := by decide +kernel
theorem i159_113 : zfetch 159 113 = some (8, .iconst 4, 1) := by decide +kernel
theorem i159_114 : zfetch 159 114 = some (8, .aload_n 0, 1) := by decide +kernel
theorem i159_115 : zfetch 159 115 = some (8, .iload 5, 2) := by decide +kernel
theorem i159_117 : zfetch 159 117 = some (8, .invokevirtual 146, 3) := by decide +kernel
theorem i159_120 : zfetch 159 120 = some (8, .invokevirtual 149, 3) := by decide +kernel
theorem i159_123 : zfetch 159 123 = some (8, .aload_n 0, 1) := by decide +kernel
theorem i159_124 : zfetch 159 124 = some (8, .iload 5, 2) := by decide +kernel
theorem i159_126 : zfetch 159 126 = some (8, .iconst 5, 1) := by decide +kernel
theorem i159_127 : zfetch 159 127 = some (8, .iload_n 2, 1) := by decide +kernel
theorem i159_128 : zfetch 159 128 = some (8, .ifCond .ge 7, 3) := by decide +kernel
theorem i159_131 : zfetch 159 131 = some (8, .iconst 0, 1) := by decide +kernel
theorem i159_132 : zfetch 159 132 = some (8, .goto 5, 3) := by decide +kernel
theorem i159_135 : zfetch 159 135 = some (8, .iload 4, 2) := by decide +kernel
theorem i159_137 : zfetch 159 137 = some (8, .invokevirtual 149, 3) := by decide +kernel
theorem i159_140 : zfetch 159 140 = some (8, .aload_n 0, 1) := by decide +kernel
theorem i159_141 : zfetch 159 141 = some (8, .getfield 7, 3) := by decide +kernel
theorem i159_144 : zfetch 159 144 = some (8, .iconst 4, 1) := by decide +kernel
theorem i159_145 : zfetch 159 145 = some (8, .dup2, 1) := by decide +kernel
theorem i159_146 : zfetch 159 146 = some (8, .iaload, 1) := by decide +kernel
theorem i159_147 : zfetch 159 147 = some (8, .iconst 1, 1) := by decide +kernel
theorem i159_148 : zfetch 159 148 = some (8, .iadd, 1) := by decide +kernel
theorem i159_149 : zfetch 159 149 = some (8, .iastore, 1) := by decide +kernel
theorem i159_150 : zfetch 159 150 = some (8, .iload 5, 2) := by decide +kernel
theorem i159_152 : zfetch 159 152 = some (8, .ireturn, 1) := by decide +kernel
theorem i160_0 : zfetch 160 0 = some (8, .aload_n 0, 1) := by decide +kernel
theorem i160_1 : zfetch 160 1 = some (8, .iload_n 1, 1) := by decide +kernel
theorem i160_2 : zfetch 160 2 = some (8, .invokevirtual 194, 3) := by decide +kernel
theorem i160_5 : zfetch 160 5 = some (8, .ifCond .eq 13, 3) := by decide +kernel
theorem i160_8 : zfetch 160 8 = some (8, .iload_n 2, 1) := by decide +kernel
theorem i160_9 : zfetch 160 9 = some (8, .iconst 0, 1) := by decide +kernel
theorem i160_10 : zfetch 160 10 = some (8, .bipush 8, 2) := by decide +kernel
theorem i160_12 : zfetch 160 12 = some (8, .invokestatic 50, 3) := by decide +kernel
theorem i160_15 : zfetch 160 15 = some (8, .ifCond .ne 9, 3) := by decide +kernel
theorem i160_18 : zfetch 160 18 = some (8, .aload_n 0, 1) := by decide +kernel
theorem i160_19 : zfetch 160 19 = some (8, .iconst 1, 1) := by decide +kernel
theorem i160_20 : zfetch 160 20 = some (8, .invokevirtual 58, 3) := by decide +kernel
theorem i160_23 : zfetch 160 23 = some (8, .ireturn, 1) := by decide +kernel
theorem i160_24 : zfetch 160 24 = some (8, .iload_n 2, 1) := by decide +kernel
theorem i160_25 : zfetch 160 25 = some (8, .bipush 6, 2) := by decide +kernel
theorem i160_27 : zfetch 160 27 = some (8, .if_icmp .ne 11, 3) := by decide +kernel
theorem i160_30 : zfetch 160 30 = some (8, .aload_n 0, 1) := by decide +kernel
theorem i160_31 : zfetch 160 31 = some (8, .iload_n 1, 1) := by decide +kernel
theorem i160_32 : zfetch 160 32 = some (8, .invokevirtual 146, 3) := by decide +kernel
theorem i160_35 : zfetch 160 35 = some (8, .goto 37, 3) := by decide +kernel
theorem i160_38 : zfetch 160 38 = some (8, .iload_n 2, 1) := by decide +kernel
theorem i160_39 : zfetch 160 39 = some (8, .bipush 7, 2) := by decide +kernel
theorem i160_41 : zfetch 160 41 = some (8, .if_icmp .ne 11, 3) := by decide +kernel
theorem i160_44 : zfetch 160 44 = some (8, .aload_n 0, 1) := by decide +kernel
theorem i160_45 : zfetch 160 45 = some (8, .iload_n 1, 1) := by decide +kernel
theorem i160_46 : zfetch 160 46 = some (8, .invokevirtual 166, 3) := by decide +kernel
theorem i160_49 : zfetch 160 49 = some (8, .goto 23, 3) := by decide +kernel
theorem i160_52 : zfetch 160 52 = some (8, .iload_n 2, 1) := by decide +kernel
theorem i160_53 : zfetch 160 53 = some (8, .bipush 8, 2) := by decide +kernel
theorem i160_55 : zfetch 160 55 = some (8, .if_icmp .ne 11, 3) := by decide +kernel
theorem i160_58 : zfetch 160 58 = some (8, .aload_n 0, 1) := by decide +kernel
theorem i160_59 : zfetch 160 59 = some (8, .iload_n 1, 1) := by decide +kernel
theorem i160_60 : zfetch 160 60 = some (8, .invokevirtual 181, 3) := by decide +kernel
theorem i160_63 : zfetch 160 63 = some (8, .goto 9, 3) := by decide +kernel
theorem i160_66 : zfetch 160 66 = some (8, .aload_n 0, 1) := by decide +kernel
theorem i160_67 : zfetch 160 67 = some (8, .iload_n 1, 1) := by decide +kernel
theorem i160_68 : zfetch 160 68 = some (8, .iload_n 2, 1) := by decide +kernel
theorem i160_69 : zfetch 160 69 = some (8, .invokevirtual 54, 3) := by decide +kernel
theorem i160_72 : zfetch 160 72 = some (8, .ireturn, 1) := by decide +kernel
theorem i161_0 : zfetch 161 0 = some (8, .aload_n 0, 1) := by decide +kernel
theorem i161_1 : zfetch 161 1 = some (8, .iload_n 1, 1) := by decide +kernel
theorem i161_2 : zfetch 161 2 = some (8, .invokevirtual 194, 3) := by decide +kernel
theorem i161_5 : zfetch 161 5 = some (8, .ifCond .eq 10, 3) := by decide +kernel
theorem i161_8 : zfetch 161 8 = some (8, .iload_n 2, 1) := by decide +kernel
theorem i161_9 : zfetch 161 9 = some (8, .invokestatic 191, 3) := by decide +kernel
theorem i161_12 : zfetch 161 12 = some (8, .ifCond .ne 9, 3) := by decide +kernel
theorem i161_15 : zfetch 161 15 = some (8, .aload_n 0, 1) := by decide +kernel
theorem i161_16 : zfetch 161 16 = some (8, .iconst 1, 1) := by decide +kernel
theorem i161_17 : zfetch 161 17 = some (8, .invokevirtual 58, 3) := by decide +kernel
theorem i161_20 : zfetch 161 20 = some (8, .ireturn, 1) := by decide +kernel
theorem i161_21 : zfetch 161 21 = some (8, .aload_n 0, 1) := by decide +kernel
theorem i161_22 : zfetch 161 22 = some (8, .iload_n 1, 1) := by decide +kernel
theorem i161_23 : zfetch 161 23 = some (8, .iconst 0, 1) := by decide +kernel
theorem i161_24 : zfetch 161 24 = some (8, .invokevirtual 54, 3) := by decide +kernel
theorem i161_27 : zfetch 161 27 = some (8, .istore_n 3, 1) := by decide +kernel
theorem i161_28 : zfetch 161 28 = some (8, .aload_n 0, 1) := by decide +kernel
theorem i161_29 : zfetch 161 29 = some (8, .iload_n 1, 1) := by decide +kernel
theorem i161_30 : zfetch 161 30 = some (8, .iconst 0, 1) := by decide +kernel
theorem i161_31 : zfetch 161 31 = some (8, .iload_n 2, 1) := by decide +kernel
theorem i161_32 : zfetch 161 32 = some (8, .bipush 10, 2) := by decide +kernel
theorem i161_34 : zfetch 161 34 = some (8, .idiv, 1) := by decide +kernel
theorem i161_35 : zfetch 161 35 = some (8, .invokevirtual 149, 3) := by decide +kernel
theorem i161_38 : zfetch 161 38 = some (8, .aload_n 0, 1) := by decide +kernel
theorem i161_39 : zfetch 161 39 = some (8, .iload_n 1, 1) := by decide +kernel
theorem i161_40 : zfetch 161 40 = some (8, .iconst 1, 1) := by decide +kernel
theorem i161_41 : zfetch 161 41 = some (8, .iload_n 2, 1) := by decide +kernel
theorem i161_42 : zfetch 161 42 = some (8, .bipush 10, 2) := by decide +kernel
theorem i161_44 : zfetch 161 44 = some (8, .irem, 1) := by decide +kernel
theorem i161_45 : zfetch 161 45 = some (8, .invokevirtual 149, 3) := by decide +kernel
theorem i161_48 : zfetch 161 48 = some (8, .iload_n 3, 1) := by decide +kernel
theorem i161_49 : zfetch 161 49 = some (8, .ireturn, 1) := by decide +kernel
theorem i162_0 : zfetch 162 0 = some (8, .aload_n 0, 1) := by decide +kernel
theorem i162_1 : zfetch 162 1 = some (8, .iload_n 1, 1) := by decide +kernel
theorem i162_2 : zfetch 162 2 = some (8, .invokevirtual 194, 3) := by decide +kernel
theorem i162_5 : zfetch 162 5 = some (8, .ifCond .eq 13, 3) := by decide +kernel
theorem i162_8 : zfetch 162 8 = some (8, .iload_n 2, 1) := by decide +kernel
theorem i162_9 : zfetch 162 9 = some (8, .iconst 0, 1) := by decide +kernel
theorem i162_10 : zfetch 162 10 = some (8, .bipush 6, 2) := by decide +kernel
theorem i162_12 : zfetch 162 12 = some (8, .invokestatic 50, 3) := by decide +kernel
theorem i162_15 : zfetch 162 15 = some (8, .ifCond .ne 9, 3) := by decide +kernel
theorem i162_18 : zfetch 162 18 = some (8, .aload_n 0, 1) := by decide +kernel
theorem i162_19 : zfetch 162 19 = some (8, .iconst 1, 1) := by decide +kernel
theorem i162_20 : zfetch 162 20 = some (8, .invokevirtual 58, 3) := by decide +kernel
theorem i162_23 : zfetch 162 23 = some (8, .ireturn, 1) := by decide +kernel
theorem i162_24 : zfetch 162 24 = some (8, .aload_n 0, 1) := by decide +kernel
theorem i162_25 : zfetch 162 25 = some (8, .iload_n 1, 1) := by decide +kernel
theorem i162_26 : zfetch 162 26 = some (8, .iconst 0, 1) := by decide +kernel
theorem i162_27 : zfetch 162 27 = some (8, .invokevirtual 54, 3) := by decide +kernel
theorem i162_30 : zfetch 162 30 = some (8, .istore_n 3, 1) := by decide +kernel
theorem i162_31 : zfetch 162 31 = some (8, .iload_n 2, 1) := by decide +kernel
theorem i162_32 : zfetch 162 32 = some (8, .ifCond .eq 16, 3) := by decide +kernel
theorem i162_35 : zfetch 162 35 = some (8, .iload_n 3, 1) := by decide +kernel
theorem i162_36 : zfetch 162 36 = some (8, .iload_n 2, 1) := by decide +kernel
theorem i162_37 : zfetch 162 37 = some (8, .if_icmp .eq 11, 3) := by decide +kernel
theorem i162_40 : zfetch 162 40 = some (8, .iload_n 3, 1) := by decide +kernel
theorem i162_41 : zfetch 162 41 = some (8, .invokestatic 197, 3) := by decide +kernel
theorem i162_44 : zfetch 162 44 = some (8, .iload_n 2, 1) := by decide +kernel
theorem i162_45 : zfetch 162 45 = some (8, .if_icmp .ne 7, 3) := by decide +kernel
theorem i162_48 : zfetch 162 48 = some (8, .iconst 1, 1) := by decide +kernel
theorem i162_49 : zfetch 162 49 = some (8, .goto 4, 3) := by decide +kernel
theorem i162_52 : zfetch 162 52 = some (8, .iconst 0, 1) := by decide +kernel
theorem i162_53 : zfetch 162 53 = some (8, .istore 4, 2) := by decide +kernel
theorem i162_55 : zfetch 162 55 = some (8, .iload 4, 2) := by decide +kernel
theorem i162_57 : zfetch 162 57 = some (8, .ifCond .eq 12, 3) := by decide +kernel
theorem i162_60 : zfetch 162 60 = some (8, .aload_n 0, 1) := by decide +kernel
theorem i162_61 : zfetch 162 61 = some (8, .iload_n 1, 1) := by decide +kernel
theorem i162_62 : zfetch 162 62 = some (8, .iconst 1, 1) := by decide +kernel
theorem i162_63 : zfetch 162 63 = some (8, .invokevirtual 54, 3) := by decide +kernel
theorem i162_66 : zfetch 162 66 = some (8, .goto 8, 3) := by decide +kernel
theorem i162_69 : zfetch 162 69 = some (8, .aload_n 0, 1) := by decide +kernel
theorem i162_70 : zfetch 162 70 = some (8, .iconst 5, 1) := by decide +kernel
theorem i162_71 : zfetch 162 71 = some (8, .invokevirtual 58, 3) := by decide +kernel
theorem i162_74 : zfetch 162 74 = some (8, .ireturn, 1) := by decide +kernel
theorem i163_0 : zfetch 163 0 = some (8, .aload_n 0, 1) := by decide +kernel
theorem i163_1 : zfetch 163 1 = some (8, .iload_n 1, 1) := by decide +kernel
theorem i163_2 : zfetch 163 2 = some (8, .invokevirtual 194, 3) := by decide +kernel
theorem i163_5 : zfetch 163 5 = some (8, .ifCond .eq 13, 3) := by decide +kernel
theorem i163_8 : zfetch 163 8 = some (8, .iload_n 2, 1) := by decide +kernel
theorem i163_9 : zfetch 163 9 = some (8, .iconst 0, 1) := by decide +kernel
theorem i163_10 : zfetch 163 10 = some (8, .bipush 99, 2) := by decide +kernel
theorem i163_12 : zfetch 163 12 = some (8, .invokestatic 50, 3) := by decide +kernel
theorem i163_15 : zfetch 163 15 = some (8, .ifCond .ne 9, 3) := by decide +kernel
theorem i163_18 : zfetch 163 18 = some (8, .aload_n 0, 1) := by decide +kernel
theorem i163_19 : zfetch 163 19 = some (8, .iconst 1, 1) := by decide +kernel
theorem i163_20 : zfetch 163 20 = some (8, .invokevirtual 58, 3) := by decide +kernel
theorem i163_23 : zfetch 163 23 = some (8, .ireturn, 1) := by decide +kernel
theorem i163_24 : zfetch 163 24 = some (8, .aload_n 0, 1) := by decide +kernel
theorem i163_25 : zfetch 163 25 = some (8, .iload_n 1, 1) := by decide +kernel
theorem i163_26 : zfetch 163 26 = some (8, .invokevirtual 140, 3) := by decide +kernel
theorem i163_29 : zfetch 163 29 = some (8, .ifCond .eq 20, 3) := by decide +kernel
theorem i163_32 : zfetch 163 32 = some (8, .aload_n 0, 1) := by decide +kernel
theorem i163_33 : zfetch 163 33 = some (8, .bipush 12, 2) := by decide +kernel
theorem i163_35 : zfetch 163 35 = some (8, .bipush 6, 2) := by decide +kernel
theorem i163_37 : zfetch 163 37 = some (8, .iload_n 1, 1) := by decide +kernel
theorem i163_38 : zfetch 163 38 = some (8, .imul, 1) := by decide +kernel
theorem i163_39 : zfetch 163 39 = some (8, .iadd, 1) := by decide +kernel
theorem i163_40 : zfetch 163 40 = some (8, .iconst 5, 1) := by decide +kernel
theorem i163_41 : zfetch 163 41 = some (8, .iadd, 1) := by decide +kernel
theorem i163_42 : zfetch 163 42 = some (8, .iload_n 2, 1) := by decide +kernel
theorem i163_43 : zfetch 163 43 = some (8, .invokevirtual 200, 3) := by decide +kernel
theorem i163_46 : zfetch 163 46 = some (8, .goto 8, 3) := by decide +kernel
theorem i163_49 : zfetch 163 49 = some (8, .aload_n 0, 1) := by decide +kernel
theorem i163_50 : zfetch 163 50 = some (8, .iconst 3, 1) := by decide +kernel
theorem i163_51 : zfetch 163 51 = some (8, .invokevirtual 58, 3) := by decide +kernel
theorem i163_54 : zfetch 163 54 = some (8, .ireturn, 1) := by decide +kernel
theorem i164_0 : zfetch 164 0 = some (8, .aload_n 0, 1) := by decide +kernel
theorem i164_1 : zfetch 164 1 = some (8, .iload_n 1, 1) := by decide +kernel
theorem i164_2 : zfetch 164 2 = some (8, .invokevirtual 194, 3) := by decide +kernel
theorem i164_5 : zfetch 164 5 = some (8, .ifCond .ne 9, 3) := by decide +kernel
theorem i164_8 : zfetch 164 8 = some (8, .aload_n 0, 1) := by decide +kernel
theorem i164_9 : zfetch 164 9 = some (8, .iconst 1, 1) := by decide +kernel
theorem i164_10 : zfetch 164 10 = some (8, .invokevirtual 58, 3) := by decide +kernel
theorem i164_13 : zfetch 164 13 = some (8, .ireturn, 1) := by decide +kernel
theorem i164_14 : zfetch 164 14 = some (8, .aload_n 0, 1) := by decide +kernel
theorem i164_15 : zfetch 164 15 = some (8, .iload_n 1, 1) := by decide +kernel
theorem i164_16 : zfetch 164 16 = some (8, .invokevirtual 140, 3) := by decide +kernel
theorem i164_19 : zfetch 164 19 = some (8, .ifCond .ne 9, 3) := by decide +kernel
theorem i164_22 : zfetch 164 22 = some (8, .aload_n 0, 1) := by decide +kernel
theorem i164_23 : zfetch 164 23 = some (8, .iconst 3, 1) := by decide +kernel
theorem i164_24 : zfetch 164 24 = some (8, .invokevirtual 58, 3) := by decide +kernel
theorem i164_27 : zfetch 164 27 = some (8, .ireturn, 1) := by decide +kernel
theorem i164_28 : zfetch 164 28 = some (8, .aload_n 0, 1) := by decide +kernel
theorem i164_29 : zfetch 164 29 = some (8, .iload_n 1, 1) := by decide +kernel
theorem i164_30 : zfetch 164 30 = some (8, .iconst 2, 1) := by decide +kernel
theorem i164_31 : zfetch 164 31 = some (8, .invokevirtual 54, 3) := by decide +kernel
theorem i164_34 : zfetch 164 34 = some (8, .istore_n 2, 1) := by decide +kernel
theorem i164_35 : zfetch 164 35 = some (8, .aload_n 0, 1) := by decide +kernel
theorem i164_36 : zfetch 164 36 = some (8, .iload_n 1, 1) := by decide +kernel
theorem i164_37 : zfetch 164 37 = some (8, .invokevirtual 153, 3) := by decide +kernel
theorem i164_40 : zfetch 164 40 = some (8, .iload_n 2, 1) := by decide +kernel
theorem i164_41 : zfetch 164 41 = some (8, .ireturn, 1) := by decide +kernel
theorem i165_0 : zfetch 165 0 = some (8, .iload_n 0, 1) := by decide +kernel
theorem i165_1 : zfetch 165 1 = some (8, .iconst 0, 1) := by decide +kernel
theorem i165_2 : zfetch 165 2 = some (8, .iconst 5, 1) := by decide +kernel
theorem i165_3 : zfetch 165 3 = some (8, .invokestatic 50, 3) := by decide +kernel
theorem i165_6 : zfetch 165 6 = some (8, .ireturn, 1) := by decide +kernel
theorem i166_0 : zfetch 166 0 = some (8, .iload_n 1, 1) := by decide +kernel
theorem i166_1 : zfetch 166 1 = some (8, .invokestatic 203, 3) := by decide +kernel
theorem i166_4 : zfetch 166 4 = some (8, .ifCond .eq 39, 3) := by decide +kernel
theorem i166_7 : zfetch 166 7 = some (8, .iload_n 2, 1) := by decide +kernel
theorem i166_8 : zfetch 166 8 = some (8, .iconst 0, 1) := by decide +kernel
theorem i166_9 : zfetch 166 9 = some (8, .bipush 7, 2) := by decide +kernel
theorem i166_11 : zfetch 166 11 = some (8, .invokestatic 50, 3) := by decide +kernel
theorem i166_14 : zfetch 166 14 = some (8, .ifCond .eq 29, 3) := by decide +kernel
theorem i166_17 : zfetch 166 17 = some (8, .iload_n 3, 1) := by decide +kernel
theorem i166_18 : zfetch 166 18 = some (8, .iconst 0, 1) := by decide +kernel
theorem i166_19 : zfetch 166 19 = some (8, .iconst 1, 1) := by decide +kernel
theorem i166_20 : zfetch 166 20 = some (8, .invokestatic 50, 3) := by decide +kernel
theorem i166_23 : zfetch 166 23 = some (8, .ifCond .eq 20, 3) := by decide +kernel
theorem i166_26 : zfetch 166 26 = some (8, .aload_n 0, 1) := by decide +kernel
theorem i166_27 : zfetch 166 27 = some (8, .bipush 6, 2) := by decide +kernel
theorem i166_29 : zfetch 166 29 = some (8, .iload_n 1, 1) := by decide +kernel
theorem i166_30 : zfetch 166 30 = some (8, .iadd, 1) := by decide +kernel
theorem i166_31 : zfetch 166 31 = some (8, .bipush 10, 2) := by decide +kernel
theorem i166_33 : zfetch 166 33 = some (8, .iload_n 2, 1) := by decide +kernel
theorem i166_34 : zfetch 166 34 = some (8, .imul, 1) := by decide +kernel
theorem i166_35 : zfetch 166 35 = some (8, .iload_n 3, 1) := by decide +kernel
theorem i166_36 : zfetch 166 36 = some (8, .iadd, 1) := by decide +kernel
theorem i166_37 : zfetch 166 37 = some (8, .invokevirtual 200, 3) := by decide +kernel
theorem i166_40 : zfetch 166 40 = some (8, .goto 8, 3) := by decide +kernel
theorem i166_43 : zfetch 166 43 = some (8, .aload_n 0, 1) := by decide +kernel
theorem i166_44 : zfetch 166 44 = some (8, .iconst 1, 1) := by decide +kernel
theorem i166_45 : zfetch 166 45 = some (8, .invokevirtual 58, 3) := by decide +kernel
theorem i166_48 : zfetch 166 48 = some (8, .ireturn, 1) := by decide +kernel
theorem i167_0 : zfetch 167 0 = some (8, .iload_n 1, 1) := by decide +kernel
theorem i167_1 : zfetch 167 1 = some (8, .invokestatic 203, 3) := by decide +kernel
theorem i167_4 : zfetch 167 4 = some (8, .ifCond .eq 15, 3) := by decide +kernel
theorem i167_7 : zfetch 167 7 = some (8, .aload_n 0, 1) := by decide +kernel
theorem i167_8 : zfetch 167 8 = some (8, .getfield 7, 3) := by decide +kernel
theorem i167_11 : zfetch 167 11 = some (8, .bipush 6, 2) := by decide +kernel
theorem i167_13 : zfetch 167 13 = some (8, .iload_n 1, 1) := by decide +kernel
theorem i167_14 : zfetch 167 14 = some (8, .iadd, 1) := by decide +kernel
theorem i167_15 : zfetch 167 15 = some (8, .iaload, 1) := by decide +kernel
theorem i167_16 : zfetch 167 16 = some (8, .goto 8, 3) := by decide +kernel
theorem i167_19 : zfetch 167 19 = some (8, .aload_n 0, 1) := by decide +kernel
theorem i167_20 : zfetch 167 20 = some (8, .iconst 1, 1) := by decide +kernel
theorem i167_21 : zfetch 167 21 = some (8, .invokevirtual 58, 3) := by decide +kernel
theorem i167_24 : zfetch 167 24 = some (8, .ireturn, 1) := by decide +kernel
theorem i168_0 : zfetch 168 0 = some (8, .iload_n 1, 1) := by decide +kernel
theorem i168_1 : zfetch 168 1 = some (8, .iconst 0, 1) := by decide +kernel
theorem i168_2 : zfetch 168 2 = some (8, .iconst 1, 1) := by decide +kernel
theorem i168_3 : zfetch 168 3 = some (8, .invokestatic 50, 3) := by decide +kernel
theorem i168_6 : zfetch 168 6 = some (8, .ifCond .eq 15, 3) := by decide +kernel
theorem i168_9 : zfetch 168 9 = some (8, .aload_n 0, 1) := by decide +kernel
theorem i168_10 : zfetch 168 10 = some (8, .iload_n 1, 1) := by decide +kernel
theorem i168_11 : zfetch 168 11 = some (8, .iload_n 2, 1) := by decide +kernel
theorem i168_12 : zfetch 168 12 = some (8, .iload_n 3, 1) := by decide +kernel
theorem i168_13 : zfetch 168 13 = some (8, .iload 4, 2) := by decide +kernel
theorem i168_15 : zfetch 168 15 = some (8, .invokevirtual 133, 3) := by decide +kernel
theorem i168_18 : zfetch 168 18 = some (8, .goto 8, 3) := by decide +kernel
theorem i168_21 : zfetch 168 21 = some (8, .aload_n 0, 1) := by decide +kernel
theorem i168_22 : zfetch 168 22 = some (8, .iconst 1, 1) := by decide +kernel
theorem i168_23 : zfetch 168 23 = some (8, .invokevirtual 58, 3) := by decide +kernel
theorem i168_26 : zfetch 168 26 = some (8, .ireturn, 1) := by decide +kernel
theorem i169_0 : zfetch 169 0 = some (8, .iload_n 1, 1) := by decide +kernel
theorem i169_1 : zfetch 169 1 = some (8, .iconst 1, 1) := by decide +kernel
theorem i169_2 : zfetch 169 2 = some (8, .bipush 60, 2) := by decide +kernel
theorem i169_4 : zfetch 169 4 = some (8, .invokestatic 50, 3) := by decide +kernel
theorem i169_7 : zfetch 169 7 = some (8, .ifCond .ne 9, 3) := by decide +kernel
theorem i169_10 : zfetch 169 10 = some (8, .aload_n 0, 1) := by decide +kernel
theorem i169_11 : zfetch 169 11 = some (8, .iconst 1, 1) := by decide +kernel
theorem i169_12 : zfetch 169 12 = some (8, .invokevirtual 58, 3) := by decide +kernel
theorem i169_15 : zfetch 169 15 = some (8, .ireturn, 1) := by decide +kernel
theorem i169_16 : zfetch 169 16 = some (8, .aload_n 0, 1) := by decide +kernel
theorem i169_17 : zfetch 169 17 = some (8, .getfield 7, 3) := by decide +kernel
theorem i169_20 : zfetch 169 20 = some (8, .iconst 0, 1) := by decide +kernel
theorem i169_21 : zfetch 169 21 = some (8, .iaload, 1) := by decide +kernel
theorem i169_22 : zfetch 169 22 = some (8, .iload_n 1, 1) := by decide +kernel
theorem i169_23 : zfetch 169 23 = some (8, .iadd, 1) := by decide +kernel
theorem i169_24 : zfetch 169 24 = some (8, .sipush 9999, 3) := by decide +kernel
theorem i169_27 : zfetch 169 27 = some (8, .if_icmp .le 9, 3) := by decide +kernel
theorem i169_30 : zfetch 169 30 = some (8, .aload_n 0, 1) := by decide +kernel
theorem i169_31 : zfetch 169 31 = some (8, .iconst 3, 1) := by decide +kernel
theorem i169_32 : zfetch 169 32 = some (8, .invokevirtual 58, 3) := by decide +kernel
theorem i169_35 : zfetch 169 35 = some (8, .ireturn, 1) := by decide +kernel
theorem i169_36 : zfetch 169 36 = some (8, .aload_n 0, 1) := by decide +kernel
theorem i169_37 : zfetch 169 37 = some (8, .iload_n 1, 1) := by decide +kernel
theorem i169_38 : zfetch 169 38 = some (8, .invokevirtual 206, 3) := by decide +kernel
theorem i169_41 : zfetch 169 41 = some (8, .aload_n 0, 1) := by decide +kernel
theorem i169_42 : zfetch 169 42 = some (8, .getfield 7, 3) := by decide +kernel
theorem i169_45 : zfetch 169 45 = some (8, .iconst 5, 1) := by decide +kernel
theorem i169_46 : zfetch 169 46 = some (8, .iaload, 1) := by decide +kernel
theorem i169_47 : zfetch 169 47 = some (8, .ireturn, 1) := by decide +kernel
theorem i170_0 : zfetch 170 0 = some (8, .aload_n 0, 1) := by decide +kernel
theorem i170_1 : zfetch 170 1 = some (8, .getfield 7, 3) := by decide +kernel
theorem i170_4 : zfetch 170 4 = some (8, .iconst 1, 1) := by decide +kernel
theorem i170_5 : zfetch 170 5 = some (8, .aload_n 0, 1) := by decide +kernel
theorem i170_6 : zfetch 170 6 = some (8, .getfield 7, 3) := by decide +kernel
theorem i170_9 : zfetch 170 9 = some (8, .iconst 1, 1) := by decide +kernel
theorem i170_10 : zfetch 170 10 = some (8, .iaload, 1) := by decide +kernel
theorem i170_11 : zfetch 170 11 = some (8, .ldc 209, 2) := by decide +kernel
theorem i170_13 : zfetch 170 13 = some (8, .imul, 1) := by decide +kernel
theorem i170_14 : zfetch 170 14 = some (8, .sipush 12345, 3) := by decide +kernel
theorem i170_17 : zfetch 170 17 = some (8, .iadd, 1) := by decide +kernel
theorem i170_18 : zfetch 170 18 = some (8, .iastore, 1) := by decide +kernel
theorem i170_19 : zfetch 170 19 = some (8, .aload_n 0, 1) := by decide +kernel
theorem i170_20 : zfetch 170 20 = some (8, .getfield 7, 3) := by decide +kernel
theorem i170_23 : zfetch 170 23 = some (8, .iconst 1, 1) := by decide +kernel
theorem i170_24 : zfetch 170 24 = some (8, .iaload, 1) := by decide +kernel
theorem i170_25 : zfetch 170 25 = some (8, .bipush 8, 2) := by decide +kernel
theorem i170_27 : zfetch 170 27 = some (8, .iushr, 1) := by decide +kernel
theorem i170_28 : zfetch 170 28 = some (8, .ireturn, 1) := by decide +kernel
theorem i171_0 : zfetch 171 0 = some (8, .iload_n 1, 1) := by decide +kernel
theorem i171_1 : zfetch 171 1 = some (8, .iconst 1, 1) := by decide +kernel
theorem i171_2 : zfetch 171 2 = some (8, .bipush 30, 2) := by decide +kernel
theorem i171_4 : zfetch 171 4 = some (8, .invokestatic 50, 3) := by decide +kernel
theorem i171_7 : zfetch 171 7 = some (8, .ifCond .ne 9, 3) := by decide +kernel
theorem i171_10 : zfetch 171 10 = some (8, .aload_n 0, 1) := by decide +kernel
theorem i171_11 : zfetch 171 11 = some (8, .iconst 1, 1) := by decide +kernel
theorem i171_12 : zfetch 171 12 = some (8, .invokevirtual 58, 3) := by decide +kernel
theorem i171_15 : zfetch 171 15 = some (8, .ireturn, 1) := by decide +kernel
theorem i171_16 : zfetch 171 16 = some (8, .aload_n 0, 1) := by decide +kernel
theorem i171_17 : zfetch 171 17 = some (8, .getfield 7, 3) := by decide +kernel
theorem i171_20 : zfetch 171 20 = some (8, .iconst 0, 1) := by decide +kernel
theorem i171_21 : zfetch 171 21 = some (8, .iaload, 1) := by decide +kernel
theorem i171_22 : zfetch 171 22 = some (8, .iload_n 1, 1) := by decide +kernel
theorem i171_23 : zfetch 171 23 = some (8, .iadd, 1) := by decide +kernel
theorem i171_24 : zfetch 171 24 = some (8, .sipush 9999, 3) := by decide +kernel
theorem i171_27 : zfetch 171 27 = some (8, .if_icmp .le 9, 3) := by decide +kernel
theorem i171_30 : zfetch 171 30 = some (8, .aload_n 0, 1) := by decide +kernel
theorem i171_31 : zfetch 171 31 = some (8, .iconst 3, 1) := by decide +kernel
theorem i171_32 : zfetch 171 32 = some (8, .invokevirtual 58, 3) := by decide +kernel
theorem i171_35 : zfetch 171 35 = some (8, .ireturn, 1) := by decide +kernel
theorem i171_36 : zfetch 171 36 = some (8, .iconst 0, 1) := by decide +kernel
theorem i171_37 : zfetch 171 37 = some (8, .istore_n 2, 1) := by decide +kernel
theorem i171_38 : zfetch 171 38 = some (8, .iload_n 2, 1) := by decide +kernel
theorem i171_39 : zfetch 171 39 = some (8, .iload_n 1, 1) := by decide +kernel
theorem i171_40 : zfetch 171 40 = some (8, .if_icmp .ge 49, 3) := by decide +kernel
theorem i171_43 : zfetch 171 43 = some (8, .aload_n 0, 1) := by decide +kernel
theorem i171_44 : zfetch 171 44 = some (8, .invokevirtual 210, 3) := by decide +kernel
theorem i171_47 : zfetch 171 47 = some (8, .bipush 8, 2) := by decide +kernel
theorem i171_49 : zfetch 171 49 = some (8, .irem, 1) := by decide +kernel
theorem i171_50 : zfetch 171 50 = some (8, .istore_n 3, 1) := by decide +kernel
theorem i171_51 : zfetch 171 51 = some (8, .aload_n 0, 1) := by decide +kernel
theorem i171_52 : zfetch 171 52 = some (8, .getfield 7, 3) := by decide +kernel
theorem i171_55 : zfetch 171 55 = some (8, .bipush 6, 2) := by decide +kernel
theorem i171_57 : zfetch 171 57 = some (8, .aload_n 0, 1) := by decide +kernel
theorem i171_58 : zfetch 171 58 = some (8, .getfield 7, 3) := by decide +kernel
theorem i171_61 : zfetch 171 61 = some (8, .iconst 0, 1) := by decide +kernel
theorem i171_62 : zfetch 171 62 = some (8, .iaload, 1) := by decide +kernel
theorem i171_63 : zfetch 171 63 = some (8, .bipush 6, 2) := by decide +kernel
theorem i171_65 : zfetch 171 65 = some (8, .irem, 1) := by decide +kernel
theorem i171_66 : zfetch 171 66 = some (8, .iadd, 1) := by decide +kernel
theorem i171_67 : zfetch 171 67 = some (8, .bipush 10, 2) := by decide +kernel
theorem i171_69 : zfetch 171 69 = some (8, .iload_n 3, 1) := by decide +kernel
theorem i171_70 : zfetch 171 70 = some (8, .imul, 1) := by decide +kernel
theorem i171_71 : zfetch 171 71 = some (8, .aload_n 0, 1) := by decide +kernel
theorem i171_72 : zfetch 171 72 = some (8, .invokevirtual 210, 3) := by decide +kernel
theorem i171_75 : zfetch 171 75 = some (8, .iconst 2, 1) := by decide +kernel
theorem i171_76 : zfetch 171 76 = some (8, .irem, 1) := by decide +kernel
theorem i171_77 : zfetch 171 77 = some (8, .iadd, 1) := by decide +kernel
theorem i171_78 : zfetch 171 78 = some (8, .iastore, 1) := by decide +kernel
theorem i171_79 : zfetch 171 79 = some (8, .aload_n 0, 1) := by decide +kernel
theorem i171_80 : zfetch 171 80 = some (8, .invokevirtual 188, 3) := by decide +kernel
theorem i171_83 : zfetch 171 83 = some (8, .iinc 2 1, 3) := by decide +kernel
theorem i171_86 : zfetch 171 86 = some (8, .goto (-48), 3) := by decide +kernel
theorem i171_89 : zfetch 171 89 = some (8, .aload_n 0, 1) := by decide +kernel
theorem i171_90 : zfetch 171 90 = some (8, .getfield 7, 3) := by decide +kernel
theorem i171_93 : zfetch 171 93 = some (8, .iconst 5, 1) := by decide +kernel
theorem i171_94 : zfetch 171 94 = some (8, .iaload, 1) := by decide +kernel
theorem i171_95 : zfetch 171 95 = some (8, .ireturn, 1) := by decide +kernel
theorem i172_0 : zfetch 172 0 = some (8, .iload_n 1, 1) := by decide +kernel
theorem i172_1 : zfetch 172 1 = some (8, .iconst 0, 1) := by decide +kernel
theorem i172_2 : zfetch 172 2 = some (8, .sipush 9999, 3) := by decide +kernel
theorem i172_5 : zfetch 172 5 = some (8, .invokestatic 50, 3) := by decide +kernel
theorem i172_8 : zfetch 172 8 = some (8, .ifCond .eq 12, 3) := by decide +kernel
theorem i172_11 : zfetch 172 11 = some (8, .aload_n 0, 1) := by decide +kernel
theorem i172_12 : zfetch 172 12 = some (8, .iconst 0, 1) := by decide +kernel
theorem i172_13 : zfetch 172 13 = some (8, .iload_n 1, 1) := by decide +kernel
theorem i172_14 : zfetch 172 14 = some (8, .invokevirtual 200, 3) := by decide +kernel
theorem i172_17 : zfetch 172 17 = some (8, .goto 8, 3) := by decide +kernel
theorem i172_20 : zfetch 172 20 = some (8, .aload_n 0, 1) := by decide +kernel
theorem i172_21 : zfetch 172 21 = some (8, .iconst 1, 1) := by decide +kernel
theorem i172_22 : zfetch 172 22 = some (8, .invokevirtual 58, 3) := by decide +kernel
theorem i172_25 : zfetch 172 25 = some (8, .ireturn, 1) := by decide +kernel
theorem i173_0 : zfetch 173 0 = some (8, .aload_n 0, 1) := by decide +kernel
theorem i173_1 : zfetch 173 1 = some (8, .iconst 1, 1) := by decide +kernel
theorem i173_2 : zfetch 173 2 = some (8, .iload_n 1, 1) := by decide +kernel
theorem i173_3 : zfetch 173 3 = some (8, .invokevirtual 200, 3) := by decide +kernel
theorem i173_6 : zfetch 173 6 = some (8, .ireturn, 1) := by decide +kernel
theorem i174_0 : zfetch 174 0 = some (8, .iconst 0, 1) := by decide +kernel
theorem i174_1 : zfetch 174 1 = some (8, .istore_n 2, 1) := by decide +kernel
theorem i174_2 : zfetch 174 2 = some (8, .iload_n 1, 1) := by decide +kernel
theorem i174_3 : zfetch 174 3 = some (8, .istore_n 3, 1) := by decide +kernel
theorem i174_4 : zfetch 174 4 = some (8, .iload_n 3, 1) := by decide +kernel
theorem i174_5 : zfetch 174 5 = some (8, .ifCond .lt 19, 3) := by decide +kernel
theorem i174_8 : zfetch 174 8 = some (8, .iload_n 2, 1) := by decide +kernel
theorem i174_9 : zfetch 174 9 = some (8, .iconst 1, 1) := by decide +kernel
theorem i174_10 : zfetch 174 10 = some (8, .iload_n 3, 1) := by decide +kernel
theorem i174_11 : zfetch 174 11 = some (8, .ishl, 1) := by decide +kernel
theorem i174_12 : zfetch 174 12 = some (8, .ior, 1) := by decide +kernel
theorem i174_13 : zfetch 174 13 = some (8, .istore_n 2, 1) := by decide +kernel
theorem i174_14 : zfetch 174 14 = some (8, .aload_n 0, 1) := by decide +kernel
theorem i174_15 : zfetch 174 15 = some (8, .iload_n 3, 1) := by decide +kernel
theorem i174_16 : zfetch 174 16 = some (8, .iconst 2, 1) := by decide +kernel
theorem i174_17 : zfetch 174 17 = some (8, .invokevirtual 54, 3) := by decide +kernel
theorem i174_20 : zfetch 174 20 = some (8, .istore_n 3, 1) := by decide +kernel
theorem i174_21 : zfetch 174 21 = some (8, .goto (-17), 3) := by decide +kernel
theorem i174_24 : zfetch 174 24 = some (8, .iload_n 2, 1) := by decide +kernel
theorem i174_25 : zfetch 174 25 = some (8, .ireturn, 1) := by decide +kernel
theorem i175_0 : zfetch 175 0 = some (8, .aload_n 0, 1) := by decide +kernel
theorem i175_1 : zfetch 175 1 = some (8, .iload_n 1, 1) := by decide +kernel
theorem i175_2 : zfetch 175 2 = some (8, .invokevirtual 194, 3) := by decide +kernel
theorem i175_5 : zfetch 175 5 = some (8, .ifCond .eq 11, 3) := by decide +kernel
theorem i175_8 : zfetch 175 8 = some (8, .aload_n 0, 1) := by decide +kernel
theorem i175_9 : zfetch 175 9 = some (8, .iload_n 1, 1) := by decide +kernel
theorem i175_10 : zfetch 175 10 = some (8, .invokevirtual 213, 3) := by decide +kernel
theorem i175_13 : zfetch 175 13 = some (8, .goto 8, 3) := by decide +kernel
theorem i175_16 : zfetch 175 16 = some (8, .aload_n 0, 1) := by decide +kernel
theorem i175_17 : zfetch 175 17 = some (8, .iconst 1, 1) := by decide +kernel
theorem i175_18 : zfetch 175 18 = some (8, .invokevirtual 58, 3) := by decide +kernel
theorem i175_21 : zfetch 175 21 = some (8, .ireturn, 1) := by decide +kernel
theorem i176_0 : zfetch 176 0 = some (8, .iconst 0, 1) := by decide +kernel
theorem i176_1 : zfetch 176 1 = some (8, .istore_n 3, 1) := by decide +kernel
theorem i176_2 : zfetch 176 2 = some (8, .iload_n 1, 1) := by decide +kernel
theorem i176_3 : zfetch 176 3 = some (8, .istore 4, 2) := by decide +kernel
theorem i176_5 : zfetch 176 5 = some (8, .iload_n 2, 1) := by decide +kernel
theorem i176_6 : zfetch 176 6 = some (8, .iload 4, 2) := by decide +kernel
theorem i176_8 : zfetch 176 8 = some (8, .ishr, 1) := by decide +kernel
theorem i176_9 : zfetch 176 9 = some (8, .iconst 1, 1) := by decide +kernel
theorem i176_10 : zfetch 176 10 = some (8, .iand, 1) := by decide +kernel
theorem i176_11 : zfetch 176 11 = some (8, .ifCond .ne 25, 3) := by decide +kernel
theorem i176_14 : zfetch 176 14 = some (8, .iload_n 3, 1) := by decide +kernel
theorem i176_15 : zfetch 176 15 = some (8, .aload_n 0, 1) := by decide +kernel
theorem i176_16 : zfetch 176 16 = some (8, .iload 4, 2) := by decide +kernel
theorem i176_18 : zfetch 176 18 = some (8, .iconst 4, 1) := by decide +kernel
theorem i176_19 : zfetch 176 19 = some (8, .invokevirtual 54, 3) := by decide +kernel
theorem i176_22 : zfetch 176 22 = some (8, .iadd, 1) := by decide +kernel
theorem i176_23 : zfetch 176 23 = some (8, .istore_n 3, 1) := by decide +kernel
theorem i176_24 : zfetch 176 24 = some (8, .aload_n 0, 1) := by decide +kernel
theorem i176_25 : zfetch 176 25 = some (8, .iload 4, 2) := by decide +kernel
theorem i176_27 : zfetch 176 27 = some (8, .iconst 2, 1) := by decide +kernel
theorem i176_28 : zfetch 176 28 = some (8, .invokevirtual 54, 3) := by decide +kernel
theorem i176_31 : zfetch 176 31 = some (8, .istore 4, 2) := by decide +kernel
theorem i176_33 : zfetch 176 33 = some (8, .goto (-28), 3) := by decide +kernel
theorem i176_36 : zfetch 176 36 = some (8, .iload_n 3, 1) := by decide +kernel
theorem i176_37 : zfetch 176 37 = some (8, .ireturn, 1) := by decide +kernel
theorem i177_0 : zfetch 177 0 = some (8, .aload_n 0, 1) := by decide +kernel
theorem i177_1 : zfetch 177 1 = some (8, .iload_n 1, 1) := by decide +kernel
theorem i177_2 : zfetch 177 2 = some (8, .invokevirtual 194, 3) := by decide +kernel
theorem i177_5 : zfetch 177 5 = some (8, .ifCond .eq 11, 3) := by decide +kernel
theorem i177_8 : zfetch 177 8 = some (8, .aload_n 0, 1) := by decide +kernel
theorem i177_9 : zfetch 177 9 = some (8, .iload_n 2, 1) := by decide +kernel
theorem i177_10 : zfetch 177 10 = some (8, .invokevirtual 194, 3) := by decide +kernel
theorem i177_13 : zfetch 177 13 = some (8, .ifCond .ne 9, 3) := by decide +kernel
theorem i177_16 : zfetch 177 16 = some (8, .aload_n 0, 1) := by decide +kernel
theorem i177_17 : zfetch 177 17 = some (8, .iconst 1, 1) := by decide +kernel
theorem i177_18 : zfetch 177 18 = some (8, .invokevirtual 58, 3) := by decide +kernel
theorem i177_21 : zfetch 177 21 = some (8, .ireturn, 1) := by decide +kernel
theorem i177_22 : zfetch 177 22 = some (8, .aload_n 0, 1) := by decide +kernel
theorem i177_23 : zfetch 177 23 = some (8, .iload_n 1, 1) := by decide +kernel
theorem i177_24 : zfetch 177 24 = some (8, .invokevirtual 213, 3) := by decide +kernel
theorem i177_27 : zfetch 177 27 = some (8, .aload_n 0, 1) := by decide +kernel
theorem i177_28 : zfetch 177 28 = some (8, .iload_n 2, 1) := by decide +kernel
theorem i177_29 : zfetch 177 29 = some (8, .invokevirtual 213, 3) := by decide +kernel
theorem i177_32 : zfetch 177 32 = some (8, .iand, 1) := by decide +kernel
theorem i177_33 : zfetch 177 33 = some (8, .istore_n 3, 1) := by decide +kernel
theorem i177_34 : zfetch 177 34 = some (8, .iload_n 3, 1) := by decide +kernel
theorem i177_35 : zfetch 177 35 = some (8, .ifCond .ne 11, 3) := by decide +kernel
theorem i177_38 : zfetch 177 38 = some (8, .aload_n 0, 1) := by decide +kernel
theorem i177_39 : zfetch 177 39 = some (8, .iconst 2, 1) := by decide +kernel
theorem i177_40 : zfetch 177 40 = some (8, .invokevirtual 58, 3) := by decide +kernel
theorem i177_43 : zfetch 177 43 = some (8, .goto 16, 3) := by decide +kernel
theorem i177_46 : zfetch 177 46 = some (8, .aload_n 0, 1) := by decide +kernel
theorem i177_47 : zfetch 177 47 = some (8, .iload_n 1, 1) := by decide +kernel
theorem i177_48 : zfetch 177 48 = some (8, .iload_n 3, 1) := by decide +kernel
theorem i177_49 : zfetch 177 49 = some (8, .invokevirtual 216, 3) := by decide +kernel
theorem i177_52 : zfetch 177 52 = some (8, .aload_n 0, 1) := by decide +kernel
theorem i177_53 : zfetch 177 53 = some (8, .iload_n 2, 1) := by decide +kernel
theorem i177_54 : zfetch 177 54 = some (8, .iload_n 3, 1) := by decide +kernel
theorem i177_55 : zfetch 177 55 = some (8, .invokevirtual 216, 3) := by decide +kernel
theorem i177_58 : zfetch 177 58 = some (8, .iadd, 1) := by decide +kernel
theorem i177_59 : zfetch 177 59 = some (8, .ireturn, 1) := by decide +kernel
theorem i178_0 : zfetch 178 0 = some (8, .aload_n 0, 1) := by decide +kernel
theorem i178_1 : zfetch 178 1 = some (8, .iload_n 1, 1) := by decide +kernel
theorem i178_2 : zfetch 178 2 = some (8, .iconst 3, 1) := by decide +kernel
theorem i178_3 : zfetch 178 3 = some (8, .invokevirtual 54, 3) := by decide +kernel
theorem i178_6 : zfetch 178 6 = some (8, .istore_n 2, 1) := by decide +kernel
theorem i178_7 : zfetch 178 7 = some (8, .aload_n 0, 1) := by decide +kernel
theorem i178_8 : zfetch 178 8 = some (8, .aload_n 0, 1) := by decide +kernel
theorem i178_9 : zfetch 178 9 = some (8, .iload_n 1, 1) := by decide +kernel
theorem i178_10 : zfetch 178 10 = some (8, .iconst 2, 1) := by decide +kernel
theorem i178_11 : zfetch 178 11 = some (8, .invokevirtual 54, 3) := by decide +kernel
theorem i178_14 : zfetch 178 14 = some (8, .iconst 3, 1) := by decide +kernel
theorem i178_15 : zfetch 178 15 = some (8, .invokevirtual 54, 3) := by decide +kernel
theorem i178_18 : zfetch 178 18 = some (8, .istore_n 3, 1) := by decide +kernel
theorem i178_19 : zfetch 178 19 = some (8, .iload_n 2, 1) := by decide +kernel
theorem i178_20 : zfetch 178 20 = some (8, .iload_n 3, 1) := by decide +kernel
theorem i178_21 : zfetch 178 21 = some (8, .if_icmp .ge 7, 3) := by decide +kernel
theorem i178_24 : zfetch 178 24 = some (8, .iload_n 2, 1) := by decide +kernel
theorem i178_25 : zfetch 178 25 = some (8, .goto 4, 3) := by decide +kernel
theorem i178_28 : zfetch 178 28 = some (8, .iload_n 3, 1) := by decide +kernel
theorem i178_29 : zfetch 178 29 = some (8, .ireturn, 1) := by decide +kernel
theorem i179_0 : zfetch 179 0 = some (8, .aload_n 0, 1) := by decide +kernel
theorem i179_1 : zfetch 179 1 = some (8, .iload_n 1, 1) := by decide +kernel
theorem i179_2 : zfetch 179 2 = some (8, .invokevirtual 219, 3) := by decide +kernel
theorem i179_5 : zfetch 179 5 = some (8, .aload_n 0, 1) := by decide +kernel
theorem i179_6 : zfetch 179 6 = some (8, .iload_n 1, 1) := by decide +kernel
theorem i179_7 : zfetch 179 7 = some (8, .invokevirtual 146, 3) := by decide +kernel
theorem i179_10 : zfetch 179 10 = some (8, .iadd, 1) := by decide +kernel
theorem i179_11 : zfetch 179 11 = some (8, .ireturn, 1) := by decide +kernel
theorem i180_0 : zfetch 180 0 = some (8, .iconst 0, 1) := by decide +kernel
theorem i180_1 : zfetch 180 1 = some (8, .istore_n 2, 1) := by decide +kernel
theorem i180_2 : zfetch 180 2 = some (8, .iconst 0, 1) := by decide +kernel
theorem i180_3 : zfetch 180 3 = some (8, .istore_n 3, 1) := by decide +kernel
theorem i180_4 : zfetch 180 4 = some (8, .iload_n 3, 1) := by decide +kernel
theorem i180_5 : zfetch 180 5 = some (8, .aload_n 0, 1) := by decide +kernel
theorem i180_6 : zfetch 180 6 = some (8, .getfield 7, 3) := by decide +kernel
theorem i180_9 : zfetch 180 9 = some (8, .iconst 4, 1) := by decide +kernel
theorem i180_10 : zfetch 180 10 = some (8, .iaload, 1) := by decide +kernel
theorem i180_11 : zfetch 180 11 = some (8, .if_icmp .ge 44, 3) := by decide +kernel
theorem i180_14 : zfetch 180 14 = some (8, .iload_n 2, 1) := by decide +kernel
theorem i180_15 : zfetch 180 15 = some (8, .aload_n 0, 1) := by decide +kernel
theorem i180_16 : zfetch 180 16 = some (8, .iload_n 3, 1) := by decide +kernel
theorem i180_17 : zfetch 180 17 = some (8, .invokevirtual 140, 3) := by decide +kernel
theorem i180_20 : zfetch 180 20 = some (8, .ifCond .eq 26, 3) := by decide +kernel
theorem i180_23 : zfetch 180 23 = some (8, .iload_n 1, 1) := by decide +kernel
theorem i180_24 : zfetch 180 24 = some (8, .aload_n 0, 1) := by decide +kernel
theorem i180_25 : zfetch 180 25 = some (8, .iload_n 3, 1) := by decide +kernel
theorem i180_26 : zfetch 180 26 = some (8, .invokevirtual 219, 3) := by decide +kernel
theorem i180_29 : zfetch 180 29 = some (8, .aload_n 0, 1) := by decide +kernel
theorem i180_30 : zfetch 180 30 = some (8, .iload_n 3, 1) := by decide +kernel
theorem i180_31 : zfetch 180 31 = some (8, .invokevirtual 222, 3) := by decide +kernel
theorem i180_34 : zfetch 180 34 = some (8, .invokestatic 50, 3) := by decide +kernel
theorem i180_37 : zfetch 180 37 = some (8, .ifCond .eq 9, 3) := by decide +kernel
theorem i180_40 : zfetch 180 40 = some (8, .iconst 1, 1) := by decide +kernel
theorem i180_41 : zfetch 180 41 = some (8, .iload_n 3, 1) := by decide +kernel
theorem i180_42 : zfetch 180 42 = some (8, .ishl, 1) := by decide +kernel
theorem i180_43 : zfetch 180 43 = some (8, .goto 4, 3) := by decide +kernel
theorem i180_46 : zfetch 180 46 = some (8, .iconst 0, 1) := by decide +kernel
theorem i180_47 : zfetch 180 47 = some (8, .ior, 1) := by decide +kernel
theorem i180_48 : zfetch 180 48 = some (8, .istore_n 2, 1) := by decide +kernel
theorem i180_49 : zfetch 180 49 = some (8, .iinc 3 1, 3) := by decide +kernel
theorem i180_52 : zfetch 180 52 = some (8, .goto (-48), 3) := by decide +kernel
theorem i180_55 : zfetch 180 55 = some (8, .iload_n 2, 1) := by decide +kernel
theorem i180_56 : zfetch 180 56 = some (8, .ireturn, 1) := by decide +kernel
theorem i181_0 : zfetch 181 0 = some (8, .iconst 0, 1) := by decide +kernel
theorem i181_1 : zfetch 181 1 = some (8, .istore_n 1, 1) := by decide +kernel
theorem i181_2 : zfetch 181 2 = some (8, .iload_n 0, 1) := by decide +kernel
theorem i181_3 : zfetch 181 3 = some (8, .istore_n 2, 1) := by decide +kernel
theorem i181_4 : zfetch 181 4 = some (8, .iload_n 2, 1) := by decide +kernel
theorem i181_5 : zfetch 181 5 = some (8, .ifCond .eq 15, 3) := by decide +kernel
theorem i181_8 : zfetch 181 8 = some (8, .iinc 1 1, 3) := by decide +kernel
theorem i181_11 : zfetch 181 11 = some (8, .iload_n 2, 1) := by decide +kernel
theorem i181_12 : zfetch 181 12 = some (8, .iload_n 2, 1) := by decide +kernel
theorem i181_13 : zfetch 181 13 = some (8, .iconst 1, 1) := by decide +kernel
theorem i181_14 : zfetch 181 14 = some (8, .isub, 1) := by decide +kernel
theorem i181_15 : zfetch 181 15 = some (8, .iand, 1) := by decide +kernel
theorem i181_16 : zfetch 181 16 = some (8, .istore_n 2, 1) := by decide +kernel
theorem i181_17 : zfetch 181 17 = some (8, .goto (-13), 3) := by decide +kernel
theorem i181_20 : zfetch 181 20 = some (8, .iload_n 1, 1) := by decide +kernel
theorem i181_21 : zfetch 181 21 = some (8, .ireturn, 1) := by decide +kernel
theorem i182_0 : zfetch 182 0 = some (8, .iload_n 1, 1) := by decide +kernel
theorem i182_1 : zfetch 182 1 = some (8, .invokestatic 172, 3) := by decide +kernel
theorem i182_4 : zfetch 182 4 = some (8, .ifCond .eq 11, 3) := by decide +kernel
theorem i182_7 : zfetch 182 7 = some (8, .aload_n 0, 1) := by decide +kernel
theorem i182_8 : zfetch 182 8 = some (8, .iload_n 1, 1) := by decide +kernel
theorem i182_9 : zfetch 182 9 = some (8, .invokevirtual 225, 3) := by decide +kernel
theorem i182_12 : zfetch 182 12 = some (8, .goto 8, 3) := by decide +kernel
theorem i182_15 : zfetch 182 15 = some (8, .aload_n 0, 1) := by decide +kernel
theorem i182_16 : zfetch 182 16 = some (8, .iconst 1, 1) := by decide +kernel
theorem i182_17 : zfetch 182 17 = some (8, .invokevirtual 58, 3) := by decide +kernel
theorem i182_20 : zfetch 182 20 = some (8, .ireturn, 1) := by decide +kernel
theorem i183_0 : zfetch 183 0 = some (8, .iload_n 1, 1) := by decide +kernel
theorem i183_1 : zfetch 183 1 = some (8, .iconst 0, 1) := by decide +kernel
theorem i183_2 : zfetch 183 2 = some (8, .iconst 1, 1) := by decide +kernel
theorem i183_3 : zfetch 183 3 = some (8, .invokestatic 50, 3) := by decide +kernel
theorem i183_6 : zfetch 183 6 = some (8, .ifCond .ne 9, 3) := by decide +kernel
theorem i183_9 : zfetch 183 9 = some (8, .aload_n 0, 1) := by decide +kernel
theorem i183_10 : zfetch 183 10 = some (8, .iconst 1, 1) := by decide +kernel
theorem i183_11 : zfetch 183 11 = some (8, .invokevirtual 58, 3) := by decide +kernel
theorem i183_14 : zfetch 183 14 = some (8, .ireturn, 1) := by decide +kernel
theorem i183_15 : zfetch 183 15 = some (8, .iconst 0, 1) := by decide +kernel
theorem i183_16 : zfetch 183 16 = some (8, .istore_n 2, 1) := by decide +kernel
theorem i183_17 : zfetch 183 17 = some (8, .iconst 0, 1) := by decide +kernel
theorem i183_18 : zfetch 183 18 = some (8, .istore_n 3, 1) := by decide +kernel
theorem i183_19 : zfetch 183 19 = some (8, .iconst 0, 1) := by decide +kernel
theorem i183_20 : zfetch 183 20 = some (8, .istore 4, 2) := by decide +kernel
theorem i183_22 : zfetch 183 22 = some (8, .iload 4, 2) := by decide +kernel
theorem i183_24 : zfetch 183 24 = some (8, .bipush 64, 2) := by decide +kernel
theorem i183_26 : zfetch 183 26 = some (8, .if_icmp .ge 46, 3) := by decide +kernel
theorem i183_29 : zfetch 183 29 = some (8, .aload_n 0, 1) := by decide +kernel
theorem i183_30 : zfetch 183 30 = some (8, .iload 4, 2) := by decide +kernel
theorem i183_32 : zfetch 183 32 = some (8, .invokevirtual 225, 3) := by decide +kernel
theorem i183_35 : zfetch 183 35 = some (8, .invokestatic 228, 3) := by decide +kernel
theorem i183_38 : zfetch 183 38 = some (8, .istore 5, 2) := by decide +kernel
theorem i183_40 : zfetch 183 40 = some (8, .iload 5, 2) := by decide +kernel
theorem i183_42 : zfetch 183 42 = some (8, .iload_n 3, 1) := by decide +kernel
theorem i183_43 : zfetch 183 43 = some (8, .if_icmp .le 8, 3) := by decide +kernel
theorem i183_46 : zfetch 183 46 = some (8, .iload 4, 2) := by decide +kernel
theorem i183_48 : zfetch 183 48 = some (8, .goto 4, 3) := by decide +kernel
theorem i183_51 : zfetch 183 51 = some (8, .iload_n 2, 1) := by decide +kernel
theorem i183_52 : zfetch 183 52 = some (8, .istore_n 2, 1) := by decide +kernel
theorem i183_53 : zfetch 183 53 = some (8, .iload 5, 2) := by decide +kernel
theorem i183_55 : zfetch 183 55 = some (8, .iload_n 3, 1) := by decide +kernel
theorem i183_56 : zfetch 183 56 = some (8, .if_icmp .le 8, 3) := by decide +kernel
theorem i183_59 : zfetch 183 59 = some (8, .iload 5, 2) := by decide +kernel
theorem i183_61 : zfetch 183 61 = some (8, .goto 4, 3) := by decide +kernel
theorem i183_64 : zfetch 183 64 = some (8, .iload_n 3, 1) := by decide +kernel
theorem i183_65 : zfetch 183 65 = some (8, .istore_n 3, 1) := by decide +kernel
theorem i183_66 : zfetch 183 66 = some (8, .iinc 4 1, 3) := by decide +kernel
theorem i183_69 : zfetch 183 69 = some (8, .goto (-47), 3) := by decide +kernel
theorem i183_72 : zfetch 183 72 = some (8, .iload_n 1, 1) := by decide +kernel
theorem i183_73 : zfetch 183 73 = some (8, .ifCond .ne 7, 3) := by decide +kernel
theorem i183_76 : zfetch 183 76 = some (8, .iload_n 2, 1) := by decide +kernel
theorem i183_77 : zfetch 183 77 = some (8, .goto 4, 3) := by decide +kernel
theorem i183_80 : zfetch 183 80 = some (8, .iload_n 3, 1) := by decide +kernel
theorem i183_81 : zfetch 183 81 = some (8, .ireturn, 1) := by decide +kernel
theorem i184_0 : zfetch 184 0 = some (8, .aload_n 0, 1) := by decide +kernel
theorem i184_1 : zfetch 184 1 = some (8, .iload_n 1, 1) := by decide +kernel
theorem i184_2 : zfetch 184 2 = some (8, .invokevirtual 219, 3) := by decide +kernel
theorem i184_5 : zfetch 184 5 = some (8, .aload_n 0, 1) := by decide +kernel
theorem i184_6 : zfetch 184 6 = some (8, .iload_n 2, 1) := by decide +kernel
theorem i184_7 : zfetch 184 7 = some (8, .invokevirtual 219, 3) := by decide +kernel
theorem i184_10 : zfetch 184 10 = some (8, .if_icmp .ge 33, 3) := by decide +kernel
theorem i184_13 : zfetch 184 13 = some (8, .aload_n 0, 1) := by decide +kernel
theorem i184_14 : zfetch 184 14 = some (8, .iload_n 2, 1) := by decide +kernel
theorem i184_15 : zfetch 184 15 = some (8, .invokevirtual 219, 3) := by decide +kernel
theorem i184_18 : zfetch 184 18 = some (8, .aload_n 0, 1) := by decide +kernel
theorem i184_19 : zfetch 184 19 = some (8, .iload_n 1, 1) := by decide +kernel
theorem i184_20 : zfetch 184 20 = some (8, .invokevirtual 222, 3) := by decide +kernel
theorem i184_23 : zfetch 184 23 = some (8, .if_icmp .ge 20, 3) := by decide +kernel
theorem i184_26 : zfetch 184 26 = some (8, .aload_n 0, 1) := by decide +kernel
theorem i184_27 : zfetch 184 27 = some (8, .iload_n 1, 1) := by decide +kernel
theorem i184_28 : zfetch 184 28 = some (8, .invokevirtual 222, 3) := by decide +kernel
theorem i184_31 : zfetch 184 31 = some (8, .aload_n 0, 1) := by decide +kernel
theorem i184_32 : zfetch 184 32 = some (8, .iload_n 2, 1) := by decide +kernel
theorem i184_33 : zfetch 184 33 = some (8, .invokevirtual 222, 3) := by decide +kernel
theorem i184_36 : zfetch 184 36 = some (8, .if_icmp .ge 7, 3) := by decide +kernel
theorem i184_39 : zfetch 184 39 = some (8, .iconst 1, 1) := by decide +kernel
theorem i184_40 : zfetch 184 40 = some (8, .goto 4, 3) := by decide +kernel
theorem i184_43 : zfetch 184 43 = some (8, .iconst 0, 1) := by decide +kernel
theorem i184_44 : zfetch 184 44 = some (8, .ireturn, 1) := by decide +kernel
theorem i185_0 : zfetch 185 0 = some (8, .iconst 0, 1) := by decide +kernel
theorem i185_1 : zfetch 185 1 = some (8, .istore_n 1, 1) := by decide +kernel
theorem i185_2 : zfetch 185 2 = some (8, .iconst 0, 1) := by decide +kernel
theorem i185_3 : zfetch 185 3 = some (8, .istore_n 2, 1) := by decide +kernel
theorem i185_4 : zfetch 185 4 = some (8, .iload_n 2, 1) := by decide +kernel
theorem i185_5 : zfetch 185 5 = some (8, .aload_n 0, 1) := by decide +kernel
theorem i185_6 : zfetch 185 6 = some (8, .getfield 7, 3) := by decide +kernel
theorem i185_9 : zfetch 185 9 = some (8, .iconst 4, 1) := by decide +kernel
theorem i185_10 : zfetch 185 10 = some (8, .iaload, 1) := by decide +kernel
theorem i185_11 : zfetch 185 11 = some (8, .if_icmp .ge 60, 3) := by decide +kernel
theorem i185_14 : zfetch 185 14 = some (8, .iconst 0, 1) := by decide +kernel
theorem i185_15 : zfetch 185 15 = some (8, .istore_n 3, 1) := by decide +kernel
theorem i185_16 : zfetch 185 16 = some (8, .iload_n 3, 1) := by decide +kernel
theorem i185_17 : zfetch 185 17 = some (8, .aload_n 0, 1) := by decide +kernel
theorem i185_18 : zfetch 185 18 = some (8, .getfield 7, 3) := by decide +kernel
theorem i185_21 : zfetch 185 21 = some (8, .iconst 4, 1) := by decide +kernel
theorem i185_22 : zfetch 185 22 = some (8, .iaload, 1) := by decide +kernel
theorem i185_23 : zfetch 185 23 = some (8, .if_icmp .ge 42, 3) := by decide +kernel
theorem i185_26 : zfetch 185 26 = some (8, .iload_n 1, 1) := by decide +kernel
theorem i185_27 : zfetch 185 27 = some (8, .aload_n 0, 1) := by decide +kernel
theorem i185_28 : zfetch 185 28 = some (8, .iload_n 2, 1) := by decide +kernel
theorem i185_29 : zfetch 185 29 = some (8, .invokevirtual 140, 3) := by decide +kernel
theorem i185_32 : zfetch 185 32 = some (8, .ifCond .eq 24, 3) := by decide +kernel
theorem i185_35 : zfetch 185 35 = some (8, .aload_n 0, 1) := by decide +kernel
theorem i185_36 : zfetch 185 36 = some (8, .iload_n 3, 1) := by decide +kernel
theorem i185_37 : zfetch 185 37 = some (8, .invokevirtual 140, 3) := by decide +kernel
theorem i185_40 : zfetch 185 40 = some (8, .ifCond .eq 16, 3) := by decide +kernel
theorem i185_43 : zfetch 185 43 = some (8, .aload_n 0, 1) := by decide +kernel
theorem i185_44 : zfetch 185 44 = some (8, .iload_n 2, 1) := by decide +kernel
theorem i185_45 : zfetch 185 45 = some (8, .iload_n 3, 1) := by decide +kernel
theorem i185_46 : zfetch 185 46 = some (8, .invokevirtual 231, 3) := by decide +kernel
theorem i185_49 : zfetch 185 49 = some (8, .ifCond .eq 7, 3) := by decide +kernel
theorem i185_52 : zfetch 185 52 = some (8, .iconst 1, 1) := by decide +kernel
theorem i185_53 : zfetch 185 53 = some (8, .goto 4, 3) := by decide +kernel
theorem i185_56 : zfetch 185 56 = some (8, .iconst 0, 1) := by decide +kernel
theorem i185_57 : zfetch 185 57 = some (8, .iadd, 1) := by decide +kernel
theorem i185_58 : zfetch 185 58 = some (8, .istore_n 1, 1) := by decide +kernel
theorem i185_59 : zfetch 185 59 = some (8, .iinc 3 1, 3) := by decide +kernel
theorem i185_62 : zfetch 185 62 = some (8, .goto (-46), 3) := by decide +kernel
theorem i185_65 : zfetch 185 65 = some (8, .iinc 2 1, 3) := by decide +kernel
theorem i185_68 : zfetch 185 68 = some (8, .goto (-64), 3) := by decide +kernel
theorem i185_71 : zfetch 185 71 = some (8, .iload_n 1, 1) := by decide +kernel
theorem i185_72 : zfetch 185 72 = some (8, .ireturn, 1) := by decide +kernel
theorem i186_0 : zfetch 186 0 = some (8, .aload_n 0, 1) := by decide +kernel
theorem i186_1 : zfetch 186 1 = some (8, .iload_n 1, 1) := by decide +kernel
theorem i186_2 : zfetch 186 2 = some (8, .invokevirtual 194, 3) := by decide +kernel
theorem i186_5 : zfetch 186 5 = some (8, .ifCond .eq 13, 3) := by decide +kernel
theorem i186_8 : zfetch 186 8 = some (8, .iload_n 2, 1) := by decide +kernel
theorem i186_9 : zfetch 186 9 = some (8, .iconst 0, 1) := by decide +kernel
theorem i186_10 : zfetch 186 10 = some (8, .bipush 60, 2) := by decide +kernel
theorem i186_12 : zfetch 186 12 = some (8, .invokestatic 50, 3) := by decide +kernel
theorem i186_15 : zfetch 186 15 = some (8, .ifCond .ne 9, 3) := by decide +kernel
theorem i186_18 : zfetch 186 18 = some (8, .aload_n 0, 1) := by decide +kernel
theorem i186_19 : zfetch 186 19 = some (8, .iconst 1, 1) := by decide +kernel
theorem i186_20 : zfetch 186 20 = some (8, .invokevirtual 58, 3) := by decide +kernel
theorem i186_23 : zfetch 186 23 = some (8, .ireturn, 1) := by decide +kernel
theorem i186_24 : zfetch 186 24 = some (8, .aload_n 0, 1) := by decide +kernel
theorem i186_25 : zfetch 186 25 = some (8, .invokevirtual 234, 3) := by decide +kernel
theorem i186_28 : zfetch 186 28 = some (8, .aload_n 0, 1) := by decide +kernel
theorem i186_29 : zfetch 186 29 = some (8, .iload_n 2, 1) := by decide +kernel
theorem i186_30 : zfetch 186 30 = some (8, .invokevirtual 206, 3) := by decide +kernel
theorem i186_33 : zfetch 186 33 = some (8, .aload_n 0, 1) := by decide +kernel
theorem i186_34 : zfetch 186 34 = some (8, .iload_n 1, 1) := by decide +kernel
theorem i186_35 : zfetch 186 35 = some (8, .iconst 3, 1) := by decide +kernel
theorem i186_36 : zfetch 186 36 = some (8, .invokevirtual 54, 3) := by decide +kernel
theorem i186_39 : zfetch 186 39 = some (8, .istore_n 3, 1) := by decide +kernel
theorem i186_40 : zfetch 186 40 = some (8, .aload_n 0, 1) := by decide +kernel
theorem i186_41 : zfetch 186 41 = some (8, .invokevirtual 237, 3) := by decide +kernel
theorem i186_44 : zfetch 186 44 = some (8, .iload_n 3, 1) := by decide +kernel
theorem i186_45 : zfetch 186 45 = some (8, .ireturn, 1) := by decide +kernel
theorem i187_0 : zfetch 187 0 = some (8, .iload_n 1, 1) := by decide +kernel
theorem i187_1 : zfetch 187 1 = some (8, .iconst 0, 1) := by decide +kernel
theorem i187_2 : zfetch 187 2 = some (8, .bipush 60, 2) := by decide +kernel
theorem i187_4 : zfetch 187 4 = some (8, .invokestatic 50, 3) := by decide +kernel
theorem i187_7 : zfetch 187 7 = some (8, .ifCond .ne 9, 3) := by decide +kernel
theorem i187_10 : zfetch 187 10 = some (8, .aload_n 0, 1) := by decide +kernel
theorem i187_11 : zfetch 187 11 = some (8, .iconst 1, 1) := by decide +kernel
theorem i187_12 : zfetch 187 12 = some (8, .invokevirtual 58, 3) := by decide +kernel
theorem i187_15 : zfetch 187 15 = some (8, .ireturn, 1) := by decide +kernel
theorem i187_16 : zfetch 187 16 = some (8, .aload_n 0, 1) := by decide +kernel
theorem i187_17 : zfetch 187 17 = some (8, .invokevirtual 234, 3) := by decide +kernel
theorem i187_20 : zfetch 187 20 = some (8, .aload_n 0, 1) := by decide +kernel
theorem i187_21 : zfetch 187 21 = some (8, .iload_n 1, 1) := by decide +kernel
theorem i187_22 : zfetch 187 22 = some (8, .invokevirtual 206, 3) := by decide +kernel
theorem i187_25 : zfetch 187 25 = some (8, .aload_n 0, 1) := by decide +kernel
theorem i187_26 : zfetch 187 26 = some (8, .invokevirtual 240, 3) := by decide +kernel
theorem i187_29 : zfetch 187 29 = some (8, .istore_n 2, 1) := by decide +kernel
theorem i187_30 : zfetch 187 30 = some (8, .aload_n 0, 1) := by decide +kernel
theorem i187_31 : zfetch 187 31 = some (8, .invokevirtual 237, 3) := by decide +kernel
theorem i187_34 : zfetch 187 34 = some (8, .iload_n 2, 1) := by decide +kernel
theorem i187_35 : zfetch 187 35 = some (8, .ireturn, 1) := by decide +kernel
theorem i188_0 : zfetch 188 0 = some (8, .aload_n 0, 1) := by decide +kernel
theorem i188_1 : zfetch 188 1 = some (8, .iload_n 1, 1) := by decide +kernel
theorem i188_2 : zfetch 188 2 = some (8, .invokevirtual 194, 3) := by decide +kernel
theorem i188_5 : zfetch 188 5 = some (8, .ifCond .eq 10, 3) := by decide +kernel
theorem i188_8 : zfetch 188 8 = some (8, .iload_n 2, 1) := by decide +kernel
theorem i188_9 : zfetch 188 9 = some (8, .invokestatic 172, 3) := by decide +kernel
theorem i188_12 : zfetch 188 12 = some (8, .ifCond .ne 9, 3) := by decide +kernel
theorem i188_15 : zfetch 188 15 = some (8, .aload_n 0, 1) := by decide +kernel
theorem i188_16 : zfetch 188 16 = some (8, .iconst 1, 1) := by decide +kernel
theorem i188_17 : zfetch 188 17 = some (8, .invokevirtual 58, 3) := by decide +kernel
theorem i188_20 : zfetch 188 20 = some (8, .ireturn, 1) := by decide +kernel
theorem i188_21 : zfetch 188 21 = some (8, .aload_n 0, 1) := by decide +kernel
theorem i188_22 : zfetch 188 22 = some (8, .invokevirtual 234, 3) := by decide +kernel
theorem i188_25 : zfetch 188 25 = some (8, .iconst 0, 1) := by decide +kernel
theorem i188_26 : zfetch 188 26 = some (8, .istore_n 3, 1) := by decide +kernel
theorem i188_27 : zfetch 188 27 = some (8, .iload_n 3, 1) := by decide +kernel
theorem i188_28 : zfetch 188 28 = some (8, .bipush 60, 2) := by decide +kernel
theorem i188_30 : zfetch 188 30 = some (8, .if_icmp .gt 23, 3) := by decide +kernel
theorem i188_33 : zfetch 188 33 = some (8, .aload_n 0, 1) := by decide +kernel
theorem i188_34 : zfetch 188 34 = some (8, .iload_n 1, 1) := by decide +kernel
theorem i188_35 : zfetch 188 35 = some (8, .iconst 3, 1) := by decide +kernel
theorem i188_36 : zfetch 188 36 = some (8, .invokevirtual 54, 3) := by decide +kernel
theorem i188_39 : zfetch 188 39 = some (8, .iload_n 2, 1) := by decide +kernel
theorem i188_40 : zfetch 188 40 = some (8, .if_icmp .eq 13, 3) := by decide +kernel
theorem i188_43 : zfetch 188 43 = some (8, .aload_n 0, 1) := by decide +kernel
theorem i188_44 : zfetch 188 44 = some (8, .invokevirtual 188, 3) := by decide +kernel
theorem i188_47 : zfetch 188 47 = some (8, .iinc 3 1, 3) := by decide +kernel
theorem i188_50 : zfetch 188 50 = some (8, .goto (-23), 3) := by decide +kernel
theorem i188_53 : zfetch 188 53 = some (8, .aload_n 0, 1) := by decide +kernel
theorem i188_54 : zfetch 188 54 = some (8, .invokevirtual 237, 3) := by decide +kernel
theorem i188_57 : zfetch 188 57 = some (8, .iload_n 3, 1) := by decide +kernel
theorem i188_58 : zfetch 188 58 = some (8, .bipush 60, 2) := by decide +kernel
theorem i188_60 : zfetch 188 60 = some (8, .if_icmp .le 11, 3) := by decide +kernel
theorem i188_63 : zfetch 188 63 = some (8, .aload_n 0, 1) := by decide +kernel
theorem i188_64 : zfetch 188 64 = some (8, .iconst 2, 1) := by decide +kernel
theorem i188_65 : zfetch 188 65 = some (8, .invokevirtual 58, 3) := by decide +kernel
theorem i188_68 : zfetch 188 68 = some (8, .goto 4, 3) := by decide +kernel
theorem i188_71 : zfetch 188 71 = some (8, .iload_n 3, 1) := by decide +kernel
theorem i188_72 : zfetch 188 72 = some (8, .ireturn, 1) := by decide +kernel
theorem i189_0 : zfetch 189 0 = some (8, .aload_n 0, 1) := by decide +kernel
theorem i189_1 : zfetch 189 1 = some (8, .iload_n 1, 1) := by decide +kernel
theorem i189_2 : zfetch 189 2 = some (8, .iconst 5, 1) := by decide +kernel
theorem i189_3 : zfetch 189 3 = some (8, .iload_n 2, 1) := by decide +kernel
theorem i189_4 : zfetch 189 4 = some (8, .invokevirtual 149, 3) := by decide +kernel
theorem i189_7 : zfetch 189 7 = some (8, .aload_n 0, 1) := by decide +kernel
theorem i189_8 : zfetch 189 8 = some (8, .iload_n 3, 1) := by decide +kernel
theorem i189_9 : zfetch 189 9 = some (8, .invokevirtual 206, 3) := by decide +kernel
theorem i189_12 : zfetch 189 12 = some (8, .aload_n 0, 1) := by decide +kernel
theorem i189_13 : zfetch 189 13 = some (8, .iload_n 1, 1) := by decide +kernel
theorem i189_14 : zfetch 189 14 = some (8, .invokevirtual 140, 3) := by decide +kernel
theorem i189_17 : zfetch 189 17 = some (8, .istore 4, 2) := by decide +kernel
theorem i189_19 : zfetch 189 19 = some (8, .aload_n 0, 1) := by decide +kernel
theorem i189_20 : zfetch 189 20 = some (8, .invokevirtual 237, 3) := by decide +kernel
theorem i189_23 : zfetch 189 23 = some (8, .iload 4, 2) := by decide +kernel
theorem i189_25 : zfetch 189 25 = some (8, .ireturn, 1) := by decide +kernel
theorem i190_0 : zfetch 190 0 = some (8, .aload_n 0, 1) := by decide +kernel
theorem i190_1 : zfetch 190 1 = some (8, .iload_n 1, 1) := by decide +kernel
theorem i190_2 : zfetch 190 2 = some (8, .invokevirtual 194, 3) := by decide +kernel
theorem i190_5 : zfetch 190 5 = some (8, .ifCond .eq 13, 3) := by decide +kernel
theorem i190_8 : zfetch 190 8 = some (8, .iload_n 2, 1) := by decide +kernel
theorem i190_9 : zfetch 190 9 = some (8, .iconst 0, 1) := by decide +kernel
theorem i190_10 : zfetch 190 10 = some (8, .bipush 40, 2) := by decide +kernel
theorem i190_12 : zfetch 190 12 = some (8, .invokestatic 50, 3) := by decide +kernel
theorem i190_15 : zfetch 190 15 = some (8, .ifCond .ne 9, 3) := by decide +kernel
theorem i190_18 : zfetch 190 18 = some (8, .aload_n 0, 1) := by decide +kernel
theorem i190_19 : zfetch 190 19 = some (8, .iconst 1, 1) := by decide +kernel
theorem i190_20 : zfetch 190 20 = some (8, .invokevirtual 58, 3) := by decide +kernel
theorem i190_23 : zfetch 190 23 = some (8, .ireturn, 1) := by decide +kernel
theorem i190_24 : zfetch 190 24 = some (8, .aload_n 0, 1) := by decide +kernel
theorem i190_25 : zfetch 190 25 = some (8, .iload_n 1, 1) := by decide +kernel
theorem i190_26 : zfetch 190 26 = some (8, .invokevirtual 140, 3) := by decide +kernel
theorem i190_29 : zfetch 190 29 = some (8, .ifCond .ne 9, 3) := by decide +kernel
theorem i190_32 : zfetch 190 32 = some (8, .aload_n 0, 1) := by decide +kernel
theorem i190_33 : zfetch 190 33 = some (8, .iconst 3, 1) := by decide +kernel
theorem i190_34 : zfetch 190 34 = some (8, .invokevirtual 58, 3) := by decide +kernel
theorem i190_37 : zfetch 190 37 = some (8, .ireturn, 1) := by decide +kernel
theorem i190_38 : zfetch 190 38 = some (8, .aload_n 0, 1) := by decide +kernel
theorem i190_39 : zfetch 190 39 = some (8, .invokevirtual 234, 3) := by decide +kernel
theorem i190_42 : zfetch 190 42 = some (8, .iconst 0, 1) := by decide +kernel
theorem i190_43 : zfetch 190 43 = some (8, .istore_n 3, 1) := by decide +kernel
theorem i190_44 : zfetch 190 44 = some (8, .iload_n 3, 1) := by decide +kernel
theorem i190_45 : zfetch 190 45 = some (8, .bipush 99, 2) := by decide +kernel
theorem i190_47 : zfetch 190 47 = some (8, .if_icmp .gt 21, 3) := by decide +kernel
theorem i190_50 : zfetch 190 50 = some (8, .aload_n 0, 1) := by decide +kernel
theorem i190_51 : zfetch 190 51 = some (8, .iload_n 1, 1) := by decide +kernel
theorem i190_52 : zfetch 190 52 = some (8, .iload_n 3, 1) := by decide +kernel
theorem i190_53 : zfetch 190 53 = some (8, .iload_n 2, 1) := by decide +kernel
theorem i190_54 : zfetch 190 54 = some (8, .invokevirtual 243, 3) := by decide +kernel
theorem i190_57 : zfetch 190 57 = some (8, .ifCond .eq 5, 3) := by decide +kernel
theorem i190_60 : zfetch 190 60 = some (8, .iload_n 3, 1) := by decide +kernel
theorem i190_61 : zfetch 190 61 = some (8, .ireturn, 1) := by decide +kernel
theorem i190_62 : zfetch 190 62 = some (8, .iinc 3 1, 3) := by decide +kernel
theorem i190_65 : zfetch 190 65 = some (8, .goto (-21), 3) := by decide +kernel
theorem i190_68 : zfetch 190 68 = some (8, .aload_n 0, 1) := by decide +kernel
theorem i190_69 : zfetch 190 69 = some (8, .iconst 2, 1) := by decide +kernel
theorem i190_70 : zfetch 190 70 = some (8, .invokevirtual 58, 3) := by decide +kernel
theorem i190_73 : zfetch 190 73 = some (8, .ireturn, 1) := by decide +kernel
theorem i191_0 : zfetch 191 0 = some (8, .aload_n 0, 1) := by decide +kernel
theorem i191_1 : zfetch 191 1 = some (8, .iload_n 1, 1) := by decide +kernel
theorem i191_2 : zfetch 191 2 = some (8, .iconst 3, 1) := by decide +kernel
theorem i191_3 : zfetch 191 3 = some (8, .invokevirtual 54, 3) := by decide +kernel
theorem i191_6 : zfetch 191 6 = some (8, .istore 4, 2) := by decide +kernel
theorem i191_8 : zfetch 191 8 = some (8, .iconst 0, 1) := by decide +kernel
theorem i191_9 : zfetch 191 9 = some (8, .istore 5, 2) := by decide +kernel
theorem i191_11 : zfetch 191 11 = some (8, .iload 5, 2) := by decide +kernel
theorem i191_13 : zfetch 191 13 = some (8, .aload_n 0, 1) := by decide +kernel
theorem i191_14 : zfetch 191 14 = some (8, .getfield 7, 3) := by decide +kernel
theorem i191_17 : zfetch 191 17 = some (8, .iconst 4, 1) := by decide +kernel
theorem i191_18 : zfetch 191 18 = some (8, .iaload, 1) := by decide +kernel
theorem i191_19 : zfetch 191 19 = some (8, .if_icmp .ge 25, 3) := by decide +kernel
theorem i191_22 : zfetch 191 22 = some (8, .iload_n 2, 1) := by decide +kernel
theorem i191_23 : zfetch 191 23 = some (8, .iload 5, 2) := by decide +kernel
theorem i191_25 : zfetch 191 25 = some (8, .ishr, 1) := by decide +kernel
theorem i191_26 : zfetch 191 26 = some (8, .iconst 1, 1) := by decide +kernel
theorem i191_27 : zfetch 191 27 = some (8, .iand, 1) := by decide +kernel
theorem i191_28 : zfetch 191 28 = some (8, .iconst 1, 1) := by decide +kernel
theorem i191_29 : zfetch 191 29 = some (8, .if_icmp .ne 9, 3) := by decide +kernel
theorem i191_32 : zfetch 191 32 = some (8, .aload_n 0, 1) := by decide +kernel
theorem i191_33 : zfetch 191 33 = some (8, .iload 5, 2) := by decide +kernel
theorem i191_35 : zfetch 191 35 = some (8, .invokevirtual 153, 3) := by decide +kernel
theorem i191_38 : zfetch 191 38 = some (8, .iinc 5 1, 3) := by decide +kernel
theorem i191_41 : zfetch 191 41 = some (8, .goto (-30), 3) := by decide +kernel
theorem i191_44 : zfetch 191 44 = some (8, .aload_n 0, 1) := by decide +kernel
theorem i191_45 : zfetch 191 45 = some (8, .iload_n 3, 1) := by decide +kernel
theorem i191_46 : zfetch 191 46 = some (8, .invokevirtual 206, 3) := by decide +kernel
theorem i191_49 : zfetch 191 49 = some (8, .aload_n 0, 1) := by decide +kernel
theorem i191_50 : zfetch 191 50 = some (8, .iload_n 1, 1) := by decide +kernel
theorem i191_51 : zfetch 191 51 = some (8, .iconst 3, 1) := by decide +kernel
theorem i191_52 : zfetch 191 52 = some (8, .invokevirtual 54, 3) := by decide +kernel
theorem i191_55 : zfetch 191 55 = some (8, .iload 4, 2) := by decide +kernel
theorem i191_57 : zfetch 191 57 = some (8, .if_icmp .ne 7, 3) := by decide +kernel
theorem i191_60 : zfetch 191 60 = some (8, .iconst 1, 1) := by decide +kernel
theorem i191_61 : zfetch 191 61 = some (8, .goto 4, 3) := by decide +kernel
theorem i191_64 : zfetch 191 64 = some (8, .iconst 0, 1) := by decide +kernel
theorem i191_65 : zfetch 191 65 = some (8, .istore 5, 2) := by decide +kernel
theorem i191_67 : zfetch 191 67 = some (8, .aload_n 0, 1) := by decide +kernel
theorem i191_68 : zfetch 191 68 = some (8, .invokevirtual 237, 3) := by decide +kernel
theorem i191_71 : zfetch 191 71 = some (8, .iload 5, 2) := by decide +kernel
theorem i191_73 : zfetch 191 73 = some (8, .ireturn, 1) := by decide +kernel
theorem i192_0 : zfetch 192 0 = some (8, .aload_n 0, 1) := by decide +kernel
theorem i192_1 : zfetch 192 1 = some (8, .iload_n 1, 1) := by decide +kernel
theorem i192_2 : zfetch 192 2 = some (8, .invokevirtual 194, 3) := by decide +kernel
theorem i192_5 : zfetch 192 5 = some (8, .ifCond .eq 13, 3) := by decide +kernel
theorem i192_8 : zfetch 192 8 = some (8, .iload_n 2, 1) := by decide +kernel
theorem i192_9 : zfetch 192 9 = some (8, .iconst 0, 1) := by decide +kernel
theorem i192_10 : zfetch 192 10 = some (8, .bipush 40, 2) := by decide +kernel
theorem i192_12 : zfetch 192 12 = some (8, .invokestatic 50, 3) := by decide +kernel
theorem i192_15 : zfetch 192 15 = some (8, .ifCond .ne 9, 3) := by decide +kernel
theorem i192_18 : zfetch 192 18 = some (8, .aload_n 0, 1) := by decide +kernel
theorem i192_19 : zfetch 192 19 = some (8, .iconst 1, 1) := by decide +kernel
theorem i192_20 : zfetch 192 20 = some (8, .invokevirtual 58, 3) := by decide +kernel
theorem i192_23 : zfetch 192 23 = some (8, .ireturn, 1) := by decide +kernel
theorem i192_24 : zfetch 192 24 = some (8, .aload_n 0, 1) := by decide +kernel
theorem i192_25 : zfetch 192 25 = some (8, .invokevirtual 234, 3) := by decide +kernel
theorem i192_28 : zfetch 192 28 = some (8, .aload_n 0, 1) := by decide +kernel
theorem i192_29 : zfetch 192 29 = some (8, .invokevirtual 240, 3) := by decide +kernel
theorem i192_32 : zfetch 192 32 = some (8, .istore_n 3, 1) := by decide +kernel
theorem i192_33 : zfetch 192 33 = some (8, .iconst (-1), 1) := by decide +kernel
theorem i192_34 : zfetch 192 34 = some (8, .istore 4, 2) := by decide +kernel
theorem i192_36 : zfetch 192 36 = some (8, .iconst 0, 1) := by decide +kernel
theorem i192_37 : zfetch 192 37 = some (8, .istore 5, 2) := by decide +kernel
theorem i192_39 : zfetch 192 39 = some (8, .iload 5, 2) := by decide +kernel
theorem i192_41 : zfetch 192 41 = some (8, .iload_n 3, 1) := by decide +kernel
theorem i192_42 : zfetch 192 42 = some (8, .if_icmp .gt 68, 3) := by decide +kernel
theorem i192_45 : zfetch 192 45 = some (8, .iload 5, 2) := by decide +kernel
theorem i192_47 : zfetch 192 47 = some (8, .iload_n 3, 1) := by decide +kernel
theorem i192_48 : zfetch 192 48 = some (8, .iconst (-1), 1) := by decide +kernel
theorem i192_49 : zfetch 192 49 = some (8, .ixor, 1) := by decide +kernel
theorem i192_50 : zfetch 192 50 = some (8, .iand, 1) := by decide +kernel
theorem i192_51 : zfetch 192 51 = some (8, .ifCond .ne 25, 3) := by decide +kernel
theorem i192_54 : zfetch 192 54 = some (8, .iload 4, 2) := by decide +kernel
theorem i192_56 : zfetch 192 56 = some (8, .ifCond .lt 16, 3) := by decide +kernel
theorem i192_59 : zfetch 192 59 = some (8, .iload 5, 2) := by decide +kernel
theorem i192_61 : zfetch 192 61 = some (8, .invokestatic 228, 3) := by decide +kernel
theorem i192_64 : zfetch 192 64 = some (8, .iload 4, 2) := by decide +kernel
theorem i192_66 : zfetch 192 66 = some (8, .invokestatic 228, 3) := by decide +kernel
theorem i192_69 : zfetch 192 69 = some (8, .if_icmp .ge 7, 3) := by decide +kernel
theorem i192_72 : zfetch 192 72 = some (8, .iconst 1, 1) := by decide +kernel
theorem i192_73 : zfetch 192 73 = some (8, .goto 4, 3) := by decide +kernel
theorem i192_76 : zfetch 192 76 = some (8, .iconst 0, 1) := by decide +kernel
theorem i192_77 : zfetch 192 77 = some (8, .istore 6, 2) := by decide +kernel
theorem i192_79 : zfetch 192 79 = some (8, .iload 6, 2) := by decide +kernel
theorem i192_81 : zfetch 192 81 = some (8, .ifCond .eq 19, 3) := by decide +kernel
theorem i192_84 : zfetch 192 84 = some (8, .aload_n 0, 1) := by decide +kernel
theorem i192_85 : zfetch 192 85 = some (8, .iload_n 1, 1) := by decide +kernel
theorem i192_86 : zfetch 192 86 = some (8, .iload 5, 2) := by decide +kernel
theorem i192_88 : zfetch 192 88 = some (8, .iload_n 2, 1) := by decide +kernel
theorem i192_89 : zfetch 192 89 = some (8, .invokevirtual 246, 3) := by decide +kernel
theorem i192_92 : zfetch 192 92 = some (8, .ifCond .eq 8, 3) := by decide +kernel
theorem i192_95 : zfetch 192 95 = some (8, .iload 5, 2) := by decide +kernel
theorem i192_97 : zfetch 192 97 = some (8, .goto 5, 3) := by decide +kernel
theorem i192_100 : zfetch 192 100 = some (8, .iload 4, 2) := by decide +kernel
theorem i192_102 : zfetch 192 102 = some (8, .istore 4, 2) := by decide +kernel
theorem i192_104 : zfetch 192 104 = some (8, .iinc 5 1, 3) := by decide +kernel
theorem i192_107 : zfetch 192 107 = some (8, .goto (-68), 3) := by decide +kernel
theorem i192_110 : zfetch 192 110 = some (8, .iload 4, 2) := by decide +kernel
theorem i192_112 : zfetch 192 112 = some (8, .ifCond .ge 11, 3) := by decide +kernel
theorem i192_115 : zfetch 192 115 = some (8, .aload_n 0, 1) := by decide +kernel
theorem i192_116 : zfetch 192 116 = some (8, .iconst 2, 1) := by decide +kernel
theorem i192_117 : zfetch 192 117 = some (8, .invokevirtual 58, 3) := by decide +kernel
theorem i192_120 : zfetch 192 120 = some (8, .goto 5, 3) := by decide +kernel
theorem i192_123 : zfetch 192 123 = some (8, .iload 4, 2) := by decide +kernel
theorem i192_125 : zfetch 192 125 = some (8, .ireturn, 1) := by decide +kernel
theorem i193_0 : zfetch 193 0 = some (8, .iload_n 0, 1) := by decide +kernel
theorem i193_1 : zfetch 193 1 = some (8, .istore_n 2, 1) := by decide +kernel
theorem i193_2 : zfetch 193 2 = some (8, .iload_n 1, 1) := by decide +kernel
theorem i193_3 : zfetch 193 3 = some (8, .istore_n 3, 1) := by decide +kernel
theorem i193_4 : zfetch 193 4 = some (8, .iload_n 3, 1) := by decide +kernel
theorem i193_5 : zfetch 193 5 = some (8, .ifCond .eq 16, 3) := by decide +kernel
theorem i193_8 : zfetch 193 8 = some (8, .iload_n 2, 1) := by decide +kernel
theorem i193_9 : zfetch 193 9 = some (8, .iload_n 3, 1) := by decide +kernel
theorem i193_10 : zfetch 193 10 = some (8, .irem, 1) := by decide +kernel
theorem i193_11 : zfetch 193 11 = some (8, .istore 4, 2) := by decide +kernel
theorem i193_13 : zfetch 193 13 = some (8, .iload_n 3, 1) := by decide +kernel
theorem i193_14 : zfetch 193 14 = some (8, .istore_n 2, 1) := by decide +kernel
theorem i193_15 : zfetch 193 15 = some (8, .iload 4, 2) := by decide +kernel
theorem i193_17 : zfetch 193 17 = some (8, .istore_n 3, 1) := by decide +kernel
theorem i193_18 : zfetch 193 18 = some (8, .goto (-14), 3) := by decide +kernel
theorem i193_21 : zfetch 193 21 = some (8, .iload_n 2, 1) := by decide +kernel
theorem i193_22 : zfetch 193 22 = some (8, .ireturn, 1) := by decide +kernel
theorem i194_0 : zfetch 194 0 = some (8, .aload_n 0, 1) := by decide +kernel
theorem i194_1 : zfetch 194 1 = some (8, .iload_n 1, 1) := by decide +kernel
theorem i194_2 : zfetch 194 2 = some (8, .invokevirtual 194, 3) := by decide +kernel
theorem i194_5 : zfetch 194 5 = some (8, .ifCond .eq 22, 3) := by decide +kernel
theorem i194_8 : zfetch 194 8 = some (8, .iload_n 2, 1) := by decide +kernel
theorem i194_9 : zfetch 194 9 = some (8, .iconst 0, 1) := by decide +kernel
theorem i194_10 : zfetch 194 10 = some (8, .bipush 40, 2) := by decide +kernel
theorem i194_12 : zfetch 194 12 = some (8, .invokestatic 50, 3) := by decide +kernel
theorem i194_15 : zfetch 194 15 = some (8, .ifCond .eq 12, 3) := by decide +kernel
theorem i194_18 : zfetch 194 18 = some (8, .iload_n 3, 1) := by decide +kernel
theorem i194_19 : zfetch 194 19 = some (8, .iconst 0, 1) := by decide +kernel
theorem i194_20 : zfetch 194 20 = some (8, .iconst 1, 1) := by decide +kernel
theorem i194_21 : zfetch 194 21 = some (8, .invokestatic 50, 3) := by decide +kernel
theorem i194_24 : zfetch 194 24 = some (8, .ifCond .ne 9, 3) := by decide +kernel
theorem i194_27 : zfetch 194 27 = some (8, .aload_n 0, 1) := by decide +kernel
theorem i194_28 : zfetch 194 28 = some (8, .iconst 1, 1) := by decide +kernel
theorem i194_29 : zfetch 194 29 = some (8, .invokevirtual 58, 3) := by decide +kernel
theorem i194_32 : zfetch 194 32 = some (8, .ireturn, 1) := by decide +kernel
theorem i194_33 : zfetch 194 33 = some (8, .aload_n 0, 1) := by decide +kernel
theorem i194_34 : zfetch 194 34 = some (8, .iload_n 1, 1) := by decide +kernel
theorem i194_35 : zfetch 194 35 = some (8, .invokevirtual 140, 3) := by decide +kernel
theorem i194_38 : zfetch 194 38 = some (8, .ifCond .ne 9, 3) := by decide +kernel
theorem i194_41 : zfetch 194 41 = some (8, .aload_n 0, 1) := by decide +kernel
theorem i194_42 : zfetch 194 42 = some (8, .iconst 3, 1) := by decide +kernel
theorem i194_43 : zfetch 194 43 = some (8, .invokevirtual 58, 3) := by decide +kernel
theorem i194_46 : zfetch 194 46 = some (8, .ireturn, 1) := by decide +kernel
theorem i194_47 : zfetch 194 47 = some (8, .aload_n 0, 1) := by decide +kernel
theorem i194_48 : zfetch 194 48 = some (8, .invokevirtual 234, 3) := by decide +kernel
theorem i194_51 : zfetch 194 51 = some (8, .iconst 0, 1) := by decide +kernel
theorem i194_52 : zfetch 194 52 = some (8, .istore 4, 2) := by decide +kernel
theorem i194_54 : zfetch 194 54 = some (8, .iconst 0, 1) := by decide +kernel
theorem i194_55 : zfetch 194 55 = some (8, .istore 5, 2) := by decide +kernel
theorem i194_57 : zfetch 194 57 = some (8, .iload 5, 2) := by decide +kernel
theorem i194_59 : zfetch 194 59 = some (8, .bipush 32, 2) := by decide +kernel
theorem i194_61 : zfetch 194 61 = some (8, .if_icmp .ge 30, 3) := by decide +kernel
theorem i194_64 : zfetch 194 64 = some (8, .iload 4, 2) := by decide +kernel
theorem i194_66 : zfetch 194 66 = some (8, .aload_n 0, 1) := by decide +kernel
theorem i194_67 : zfetch 194 67 = some (8, .iload_n 1, 1) := by decide +kernel
theorem i194_68 : zfetch 194 68 = some (8, .iload 5, 2) := by decide +kernel
theorem i194_70 : zfetch 194 70 = some (8, .iload_n 2, 1) := by decide +kernel
theorem i194_71 : zfetch 194 71 = some (8, .invokevirtual 243, 3) := by decide +kernel
theorem i194_74 : zfetch 194 74 = some (8, .ifCond .eq 7, 3) := by decide +kernel
theorem i194_77 : zfetch 194 77 = some (8, .iconst 1, 1) := by decide +kernel
theorem i194_78 : zfetch 194 78 = some (8, .goto 4, 3) := by decide +kernel
theorem i194_81 : zfetch 194 81 = some (8, .iconst 0, 1) := by decide +kernel
theorem i194_82 : zfetch 194 82 = some (8, .iadd, 1) := by decide +kernel
theorem i194_83 : zfetch 194 83 = some (8, .istore 4, 2) := by decide +kernel
theorem i194_85 : zfetch 194 85 = some (8, .iinc 5 1, 3) := by decide +kernel
theorem i194_88 : zfetch 194 88 = some (8, .goto (-31), 3) := by decide +kernel
theorem i194_91 : zfetch 194 91 = some (8, .iload_n 3, 1) := by decide +kernel
theorem i194_92 : zfetch 194 92 = some (8, .ifCond .ne 8, 3) := by decide +kernel
theorem i194_95 : zfetch 194 95 = some (8, .iload 4, 2) := by decide +kernel
theorem i194_97 : zfetch 194 97 = some (8, .goto 5, 3) := by decide +kernel
theorem i194_100 : zfetch 194 100 = some (8, .bipush 32, 2) := by decide +kernel
theorem i194_102 : zfetch 194 102 = some (8, .iload 4, 2) := by decide +kernel
theorem i194_104 : zfetch 194 104 = some (8, .bipush 32, 2) := by decide +kernel
theorem i194_106 : zfetch 194 106 = some (8, .invokestatic 249, 3) := by decide +kernel
theorem i194_109 : zfetch 194 109 = some (8, .idiv, 1) := by decide +kernel
theorem i194_110 : zfetch 194 110 = some (8, .ireturn, 1) := by decide +kernel
theorem i195_0 : zfetch 195 0 = some (8, .iload_n 1, 1) := by decide +kernel
theorem i195_1 : zfetch 195 1 = some (8, .invokestatic 252, 3) := by decide +kernel
theorem i195_4 : zfetch 195 4 = some (8, .ifCond .eq 20, 3) := by decide +kernel
theorem i195_7 : zfetch 195 7 = some (8, .aload_n 0, 1) := by decide +kernel
theorem i195_8 : zfetch 195 8 = some (8, .iload_n 2, 1) := by decide +kernel
theorem i195_9 : zfetch 195 9 = some (8, .invokevirtual 194, 3) := by decide +kernel
theorem i195_12 : zfetch 195 12 = some (8, .ifCond .eq 12, 3) := by decide +kernel
theorem i195_15 : zfetch 195 15 = some (8, .iload_n 3, 1) := by decide +kernel
theorem i195_16 : zfetch 195 16 = some (8, .iconst 0, 1) := by decide +kernel
theorem i195_17 : zfetch 195 17 = some (8, .iconst 1, 1) := by decide +kernel
theorem i195_18 : zfetch 195 18 = some (8, .invokestatic 50, 3) := by decide +kernel
theorem i195_21 : zfetch 195 21 = some (8, .ifCond .ne 9, 3) := by decide +kernel
theorem i195_24 : zfetch 195 24 = some (8, .aload_n 0, 1) := by decide +kernel
theorem i195_25 : zfetch 195 25 = some (8, .iconst 1, 1) := by decide +kernel
theorem i195_26 : zfetch 195 26 = some (8, .invokevirtual 58, 3) := by decide +kernel
theorem i195_29 : zfetch 195 29 = some (8, .ireturn, 1) := by decide +kernel
theorem i195_30 : zfetch 195 30 = some (8, .aload_n 0, 1) := by decide +kernel
theorem i195_31 : zfetch 195 31 = some (8, .getfield 37, 3) := by decide +kernel
theorem i195_34 : zfetch 195 34 = some (8, .iload_n 1, 1) := by decide +kernel
theorem i195_35 : zfetch 195 35 = some (8, .iaload, 1) := by decide +kernel
theorem i195_36 : zfetch 195 36 = some (8, .ifCond .ne 9, 3) := by decide +kernel
theorem i195_39 : zfetch 195 39 = some (8, .aload_n 0, 1) := by decide +kernel
theorem i195_40 : zfetch 195 40 = some (8, .iconst 2, 1) := by decide +kernel
theorem i195_41 : zfetch 195 41 = some (8, .invokevirtual 58, 3) := by decide +kernel
theorem i195_44 : zfetch 195 44 = some (8, .ireturn, 1) := by decide +kernel
theorem i195_45 : zfetch 195 45 = some (8, .iconst 0, 1) := by decide +kernel
theorem i195_46 : zfetch 195 46 = some (8, .istore 4, 2) := by decide +kernel
theorem i195_48 : zfetch 195 48 = some (8, .aload_n 0, 1) := by decide +kernel
theorem i195_49 : zfetch 195 49 = some (8, .invokevirtual 234, 3) := by decide +kernel
theorem i195_52 : zfetch 195 52 = some (8, .iconst 0, 1) := by decide +kernel
theorem i195_53 : zfetch 195 53 = some (8, .istore 5, 2) := by decide +kernel
theorem i195_55 : zfetch 195 55 = some (8, .iload 5, 2) := by decide +kernel
theorem i195_57 : zfetch 195 57 = some (8, .bipush 6, 2) := by decide +kernel
theorem i195_59 : zfetch 195 59 = some (8, .if_icmp .gt 99, 3) := by decide +kernel
theorem i195_62 : zfetch 195 62 = some (8, .aload_n 0, 1) := by decide +kernel
theorem i195_63 : zfetch 195 63 = some (8, .iload_n 2, 1) := by decide +kernel
theorem i195_64 : zfetch 195 64 = some (8, .iconst 0, 1) := by decide +kernel
theorem i195_65 : zfetch 195 65 = some (8, .iload 5, 2) := by decide +kernel
theorem i195_67 : zfetch 195 67 = some (8, .invokevirtual 149, 3) := by decide +kernel
theorem i195_70 : zfetch 195 70 = some (8, .iconst 1, 1) := by decide +kernel
theorem i195_71 : zfetch 195 71 = some (8, .istore 6, 2) := by decide +kernel
theorem i195_73 : zfetch 195 73 = some (8, .iconst 0, 1) := by decide +kernel
theorem i195_74 : zfetch 195 74 = some (8, .istore 7, 2) := by decide +kernel
theorem i195_76 : zfetch 195 76 = some (8, .iload 7, 2) := by decide +kernel
theorem i195_78 : zfetch 195 78 = some (8, .aload_n 0, 1) := by decide +kernel
theorem i195_79 : zfetch 195 79 = some (8, .getfield 40, 3) := by decide +kernel
theorem i195_82 : zfetch 195 82 = some (8, .iload_n 1, 1) := by decide +kernel
theorem i195_83 : zfetch 195 83 = some (8, .iaload, 1) := by decide +kernel
theorem i195_84 : zfetch 195 84 = some (8, .if_icmp .ge 46, 3) := by decide +kernel
theorem i195_87 : zfetch 195 87 = some (8, .iload 6, 2) := by decide +kernel
theorem i195_89 : zfetch 195 89 = some (8, .ifCond .eq 41, 3) := by decide +kernel
theorem i195_92 : zfetch 195 92 = some (8, .aload_n 0, 1) := by decide +kernel
theorem i195_93 : zfetch 195 93 = some (8, .getfield 43, 3) := by decide +kernel
theorem i195_96 : zfetch 195 96 = some (8, .bipush 24, 2) := by decide +kernel
theorem i195_98 : zfetch 195 98 = some (8, .iload_n 1, 1) := by decide +kernel
theorem i195_99 : zfetch 195 99 = some (8, .imul, 1) := by decide +kernel
theorem i195_100 : zfetch 195 100 = some (8, .iload 7, 2) := by decide +kernel
theorem i195_102 : zfetch 195 102 = some (8, .iadd, 1) := by decide +kernel
theorem i195_103 : zfetch 195 103 = some (8, .iaload, 1) := by decide +kernel
theorem i195_104 : zfetch 195 104 = some (8, .aload_n 0, 1) := by decide +kernel
theorem i195_105 : zfetch 195 105 = some (8, .iload_n 2, 1) := by decide +kernel
theorem i195_106 : zfetch 195 106 = some (8, .iconst 3, 1) := by decide +kernel
theorem i195_107 : zfetch 195 107 = some (8, .invokevirtual 54, 3) := by decide +kernel
theorem i195_110 : zfetch 195 110 = some (8, .if_icmp .ne 7, 3) := by decide +kernel
theorem i195_113 : zfetch 195 113 = some (8, .iconst 1, 1) := by decide +kernel
theorem i195_114 : zfetch 195 114 = some (8, .goto 4, 3) := by decide +kernel
theorem i195_117 : zfetch 195 117 = some (8, .iconst 0, 1) := by decide +kernel
theorem i195_118 : zfetch 195 118 = some (8, .istore 6, 2) := by decide +kernel
theorem i195_120 : zfetch 195 120 = some (8, .aload_n 0, 1) := by decide +kernel
theorem i195_121 : zfetch 195 121 = some (8, .invokevirtual 188, 3) := by decide +kernel
theorem i195_124 : zfetch 195 124 = some (8, .iinc 7 1, 3) := by decide +kernel
theorem i195_127 : zfetch 195 127 = some (8, .goto (-51), 3) := by decide +kernel
theorem i195_130 : zfetch 195 130 = some (8, .aload_n 0, 1) := by decide +kernel
theorem i195_131 : zfetch 195 131 = some (8, .invokevirtual 237, 3) := by decide +kernel
theorem i195_134 : zfetch 195 134 = some (8, .iload 4, 2) := by decide +kernel
theorem i195_136 : zfetch 195 136 = some (8, .iload 6, 2) := by decide +kernel
theorem i195_138 : zfetch 195 138 = some (8, .ifCond .eq 10, 3) := by decide +kernel
theorem i195_141 : zfetch 195 141 = some (8, .iconst 1, 1) := by decide +kernel
theorem i195_142 : zfetch 195 142 = some (8, .iload 5, 2) := by decide +kernel
theorem i195_144 : zfetch 195 144 = some (8, .ishl, 1) := by decide +kernel
theorem i195_145 : zfetch 195 145 = some (8, .goto 4, 3) := by decide +kernel
theorem i195_148 : zfetch 195 148 = some (8, .iconst 0, 1) := by decide +kernel
theorem i195_149 : zfetch 195 149 = some (8, .ior, 1) := by decide +kernel
theorem i195_150 : zfetch 195 150 = some (8, .istore 4, 2) := by decide +kernel
theorem i195_152 : zfetch 195 152 = some (8, .iinc 5 1, 3) := by decide +kernel
theorem i195_155 : zfetch 195 155 = some (8, .goto (-100), 3) := by decide +kernel
theorem i195_158 : zfetch 195 158 = some (8, .iload_n 3, 1) := by decide +kernel
theorem i195_159 : zfetch 195 159 = some (8, .ifCond .ne 8, 3) := by decide +kernel
theorem i195_162 : zfetch 195 162 = some (8, .iload 4, 2) := by decide +kernel
theorem i195_164 : zfetch 195 164 = some (8, .goto 8, 3) := by decide +kernel
theorem i195_167 : zfetch 195 167 = some (8, .iload 4, 2) := by decide +kernel
theorem i195_169 : zfetch 195 169 = some (8, .invokestatic 228, 3) := by decide +kernel
theorem i195_172 : zfetch 195 172 = some (8, .ireturn, 1) := by decide +kernel
theorem i196_0 : zfetch 196 0 = some (8, .aload_n 0, 1) := by decide +kernel
theorem i196_1 : zfetch 196 1 = some (8, .getfield 255, 3) := by decide +kernel
theorem i196_4 : zfetch 196 4 = some (8, .bipush 30, 2) := by decide +kernel
theorem i196_6 : zfetch 196 6 = some (8, .if_icmp .ge 23, 3) := by decide +kernel
theorem i196_9 : zfetch 196 9 = some (8, .aload_n 0, 1) := by decide +kernel
theorem i196_10 : zfetch 196 10 = some (8, .getfield 34, 3) := by decide +kernel
theorem i196_13 : zfetch 196 13 = some (8, .aload_n 0, 1) := by decide +kernel
theorem i196_14 : zfetch 196 14 = some (8, .getfield 255, 3) := by decide +kernel
theorem i196_17 : zfetch 196 17 = some (8, .iload_n 1, 1) := by decide +kernel
theorem i196_18 : zfetch 196 18 = some (8, .iastore, 1) := by decide +kernel
theorem i196_19 : zfetch 196 19 = some (8, .aload_n 0, 1) := by decide +kernel
theorem i196_20 : zfetch 196 20 = some (8, .dup, 1) := by decide +kernel
theorem i196_21 : zfetch 196 21 = some (8, .getfield 255, 3) := by decide +kernel
theorem i196_24 : zfetch 196 24 = some (8, .iconst 1, 1) := by decide +kernel
theorem i196_25 : zfetch 196 25 = some (8, .iadd, 1) := by decide +kernel
theorem i196_26 : zfetch 196 26 = some (8, .putfield 255, 3) := by decide +kernel
theorem i196_29 : zfetch 196 29 = some (8, .return_, 1) := by decide +kernel
theorem i197_0 : zfetch 197 0 = some (8, .iload_n 0, 1) := by decide +kernel
theorem i197_1 : zfetch 197 1 = some (8, .iconst 4, 1) := by decide +kernel
theorem i197_2 : zfetch 197 2 = some (8, .if_icmp .ne 7, 3) := by decide +kernel
theorem i197_5 : zfetch 197 5 = some (8, .iconst 1, 1) := by decide +kernel
theorem i197_6 : zfetch 197 6 = some (8, .goto 13, 3) := by decide +kernel
theorem i197_9 : zfetch 197 9 = some (8, .iload_n 0, 1) := by decide +kernel
theorem i197_10 : zfetch 197 10 = some (8, .iconst 5, 1) := by decide +kernel
theorem i197_11 : zfetch 197 11 = some (8, .if_icmp .ne 7, 3) := by decide +kernel
theorem i197_14 : zfetch 197 14 = some (8, .iconst 2, 1) := by decide +kernel
theorem i197_15 : zfetch 197 15 = some (8, .goto 4, 3) := by decide +kernel
theorem i197_18 : zfetch 197 18 = some (8, .iconst 0, 1) := by decide +kernel
theorem i197_19 : zfetch 197 19 = some (8, .ireturn, 1) := by decide +kernel
theorem i198_0 : zfetch 198 0 = some (8, .aload_n 0, 1) := by decide +kernel
theorem i198_1 : zfetch 198 1 = some (8, .aload_n 0, 1) := by decide +kernel
theorem i198_2 : zfetch 198 2 = some (8, .getfield 258, 3) := by decide +kernel
theorem i198_5 : zfetch 198 5 = some (8, .iconst 0, 1) := by decide +kernel
theorem i198_6 : zfetch 198 6 = some (8, .invokevirtual 54, 3) := by decide +kernel
theorem i198_9 : zfetch 198 9 = some (8, .ireturn, 1) := by decide +kernel
theorem i199_0 : zfetch 199 0 = some (8, .aload_n 0, 1) := by decide +kernel
theorem i199_1 : zfetch 199 1 = some (8, .aload_n 0, 1) := by decide +kernel
theorem i199_2 : zfetch 199 2 = some (8, .getfield 258, 3) := by decide +kernel
theorem i199_5 : zfetch 199 5 = some (8, .iconst 1, 1) := by decide +kernel
theorem i199_6 : zfetch 199 6 = some (8, .invokevirtual 54, 3) := by decide +kernel
theorem i199_9 : zfetch 199 9 = some (8, .ireturn, 1) := by decide +kernel
theorem i200_0 : zfetch 200 0 = some (8, .iload_n 1, 1) := by decide +kernel
theorem i200_1 : zfetch 200 1 = some (8, .tableswitch 101 0 6 #[43, 56, 101, 101, 74, 101, 92], 43) := by decide +kernel
theorem i200_44 : zfetch 200 44 = some (8, .aload_n 0, 1) := by decide +kernel
theorem i200_45 : zfetch 200 45 = some (8, .bipush 10, 2) := by decide +kernel
theorem i200_47 : zfetch 200 47 = some (8, .invokevirtual 261, 3) := by decide +kernel
theorem i200_50 : zfetch 200 50 = some (8, .iload_n 2, 1) := by decide +kernel
theorem i200_51 : zfetch 200 51 = some (8, .aload_n 0, 1) := by decide +kernel
theorem i200_52 : zfetch 200 52 = some (8, .getfield 258, 3) := by decide +kernel
theorem i200_55 : zfetch 200 55 = some (8, .iadd, 1) := by decide +kernel
theorem i200_56 : zfetch 200 56 = some (8, .ireturn, 1) := by decide +kernel
theorem i200_57 : zfetch 200 57 = some (8, .aload_n 0, 1) := by decide +kernel
theorem i200_58 : zfetch 200 58 = some (8, .bipush 20, 2) := by decide +kernel
theorem i200_60 : zfetch 200 60 = some (8, .invokevirtual 261, 3) := by decide +kernel
theorem i200_63 : zfetch 200 63 = some (8, .aload_n 0, 1) := by decide +kernel
theorem i200_64 : zfetch 200 64 = some (8, .iconst 1, 1) := by decide +kernel
theorem i200_65 : zfetch 200 65 = some (8, .invokestatic 197, 3) := by decide +kernel
theorem i200_68 : zfetch 200 68 = some (8, .iload_n 2, 1) := by decide +kernel
theorem i200_69 : zfetch 200 69 = some (8, .invokevirtual 264, 3) := by decide +kernel
theorem i200_72 : zfetch 200 72 = some (8, .iconst 4, 1) := by decide +kernel
theorem i200_73 : zfetch 200 73 = some (8, .isub, 1) := by decide +kernel
theorem i200_74 : zfetch 200 74 = some (8, .ireturn, 1) := by decide +kernel
theorem i200_75 : zfetch 200 75 = some (8, .aload_n 0, 1) := by decide +kernel
theorem i200_76 : zfetch 200 76 = some (8, .bipush 50, 2) := by decide +kernel
theorem i200_78 : zfetch 200 78 = some (8, .invokevirtual 261, 3) := by decide +kernel
theorem i200_81 : zfetch 200 81 = some (8, .aload_n 0, 1) := by decide +kernel
theorem i200_82 : zfetch 200 82 = some (8, .iconst 4, 1) := by decide +kernel
theorem i200_83 : zfetch 200 83 = some (8, .invokestatic 197, 3) := by decide +kernel
theorem i200_86 : zfetch 200 86 = some (8, .iload_n 2, 1) := by decide +kernel
theorem i200_87 : zfetch 200 87 = some (8, .invokevirtual 264, 3) := by decide +kernel
theorem i200_90 : zfetch 200 90 = some (8, .iconst 3, 1) := by decide +kernel
theorem i200_91 : zfetch 200 91 = some (8, .imul, 1) := by decide +kernel
theorem i200_92 : zfetch 200 92 = some (8, .ireturn, 1) := by decide +kernel
theorem i200_93 : zfetch 200 93 = some (8, .aload_n 0, 1) := by decide +kernel
theorem i200_94 : zfetch 200 94 = some (8, .bipush 70, 2) := by decide +kernel
theorem i200_96 : zfetch 200 96 = some (8, .invokevirtual 261, 3) := by decide +kernel
theorem i200_99 : zfetch 200 99 = some (8, .bipush 9, 2) := by decide +kernel
theorem i200_101 : zfetch 200 101 = some (8, .ireturn, 1) := by decide +kernel
theorem i200_102 : zfetch 200 102 = some (8, .aload_n 0, 1) := by decide +kernel
theorem i200_103 : zfetch 200 103 = some (8, .iload_n 1, 1) := by decide +kernel
theorem i200_104 : zfetch 200 104 = some (8, .invokestatic 197, 3) := by decide +kernel
theorem i200_107 : zfetch 200 107 = some (8, .iload_n 2, 1) := by decide +kernel
theorem i200_108 : zfetch 200 108 = some (8, .invokevirtual 264, 3) := by decide +kernel
