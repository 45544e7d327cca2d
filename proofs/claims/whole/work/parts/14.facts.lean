theorem zf0_9 : zf 0 9 = some (0, 0) := by decide +kernel
theorem zf5_42 : zf 5 42 = some (0, 0) := by decide +kernel
theorem zf5_46 : zf 5 46 = some (0, 1) := by decide +kernel
theorem zf0_22 : zf 0 22 = some (0, 1) := by decide +kernel
theorem zf7_153 : zf 7 153 = some (0, 1) := by decide +kernel
theorem zf0_18 : zf 0 18 = some (0, 2) := by decide +kernel
theorem zf0_15 : zf 0 15 = some (0, 3) := by decide +kernel
theorem zf2_40 : zf 2 40 = some (2, 0) := by decide +kernel
theorem zf2_44 : zf 2 44 = some (2, 1) := by decide +kernel
theorem zf2_9 : zf 2 9 = some (2, 2) := by decide +kernel
theorem zf7_84 : zf 7 84 = some (2, 2) := by decide +kernel
theorem zf2_15 : zf 2 15 = some (2, 3) := by decide +kernel
theorem zf7_87 : zf 7 87 = some (2, 3) := by decide +kernel
theorem zf2_18 : zf 2 18 = some (2, 4) := by decide +kernel
theorem zf7_90 : zf 7 90 = some (2, 4) := by decide +kernel
theorem zf2_21 : zf 2 21 = some (2, 5) := by decide +kernel
theorem zf7_93 : zf 7 93 = some (2, 5) := by decide +kernel
theorem zf2_24 : zf 2 24 = some (2, 6) := by decide +kernel
theorem zf7_96 : zf 7 96 = some (2, 6) := by decide +kernel
theorem zf2_27 : zf 2 27 = some (2, 7) := by decide +kernel
theorem zf7_99 : zf 7 99 = some (2, 7) := by decide +kernel
theorem zf2_30 : zf 2 30 = some (2, 8) := by decide +kernel
theorem zf7_121 : zf 7 121 = some (2, 8) := by decide +kernel
theorem zf7_76 : zf 7 76 = some (2, 9) := by decide +kernel
theorem zf2_53 : zf 2 53 = some (2, 9) := by decide +kernel
theorem zf2_56 : zf 2 56 = some (2, 10) := by decide +kernel
theorem zf7_158 : zf 7 158 = some (2, 10) := by decide +kernel
theorem zf2_59 : zf 2 59 = some (2, 11) := by decide +kernel
theorem zf7_164 : zf 7 164 = some (2, 11) := by decide +kernel
theorem zf2_33 : zf 2 33 = some (2, 12) := by decide +kernel
theorem zf7_173 : zf 7 173 = some (2, 12) := by decide +kernel
theorem zf2_37 : zf 2 37 = some (2, 13) := by decide +kernel
theorem zf2_118 : zf 2 118 = some (2, 14) := by decide +kernel
theorem zf3_7 : zf 3 7 = some (3, 0) := by decide +kernel
theorem zf1_39 : zf 1 39 = some (3, 0) := by decide +kernel
theorem zf7_264 : zf 7 264 = some (3, 0) := by decide +kernel
theorem zf3_13 : zf 3 13 = some (3, 1) := by decide +kernel
theorem zf1_32 : zf 1 32 = some (3, 1) := by decide +kernel
theorem zf7_128 : zf 7 128 = some (3, 1) := by decide +kernel
theorem zf5_14 : zf 5 14 = some (5, 0) := by decide +kernel
theorem zf7_50 : zf 7 50 = some (5, 0) := by decide +kernel
theorem zf5_20 : zf 5 20 = some (5, 1) := by decide +kernel
theorem zf7_54 : zf 7 54 = some (5, 1) := by decide +kernel
theorem zf5_28 : zf 5 28 = some (5, 2) := by decide +kernel
theorem zf7_43 : zf 7 43 = some (5, 2) := by decide +kernel
theorem zf5_35 : zf 5 35 = some (5, 3) := by decide +kernel
theorem zf7_124 : zf 7 124 = some (5, 3) := by decide +kernel
theorem zf5_39 : zf 5 39 = some (5, 4) := by decide +kernel
theorem zf7_261 : zf 7 261 = some (5, 4) := by decide +kernel
theorem zf1_9 : zf 1 9 = some (1, 0) := by decide +kernel
theorem zf7_143 : zf 7 143 = some (1, 0) := by decide +kernel
theorem zf1_18 : zf 1 18 = some (1, 1) := by decide +kernel
theorem zf7_146 : zf 7 146 = some (1, 1) := by decide +kernel
theorem zf1_15 : zf 1 15 = some (1, 2) := by decide +kernel
theorem zf1_22 : zf 1 22 = some (1, 3) := by decide +kernel
theorem zf1_25 : zf 1 25 = some (1, 4) := by decide +kernel
theorem zf1_28 : zf 1 28 = some (1, 5) := by decide +kernel
theorem zf6_11 : zf 6 11 = some (6, 0) := by decide +kernel
theorem zf7_229 : zf 7 229 = some (6, 0) := by decide +kernel
theorem zf6_32 : zf 6 32 = some (6, 1) := by decide +kernel
theorem zf7_228 : zf 7 228 = some (6, 1) := by decide +kernel
theorem zf6_28 : zf 6 28 = some (6, 2) := by decide +kernel
theorem zf7_224 : zf 7 224 = some (6, 2) := by decide +kernel
theorem zf6_18 : zf 6 18 = some (6, 3) := by decide +kernel
theorem zf6_22 : zf 6 22 = some (6, 4) := by decide +kernel
theorem zf6_25 : zf 6 25 = some (6, 5) := by decide +kernel
theorem zf4_9 : zf 4 9 = some (4, 0) := by decide +kernel
theorem zf7_246 : zf 7 246 = some (4, 0) := by decide +kernel
theorem zf4_19 : zf 4 19 = some (4, 1) := by decide +kernel
theorem zf7_236 : zf 7 236 = some (4, 1) := by decide +kernel
theorem zf4_15 : zf 4 15 = some (4, 2) := by decide +kernel
theorem zf7_240 : zf 7 240 = some (4, 2) := by decide +kernel
theorem zf7_10 : zf 7 10 = some (7, 0) := by decide +kernel
theorem zf7_16 : zf 7 16 = some (7, 1) := by decide +kernel
theorem zf7_47 : zf 7 47 = some (7, 2) := by decide +kernel
theorem zf7_60 : zf 7 60 = some (7, 3) := by decide +kernel
theorem zf7_22 : zf 7 22 = some (7, 4) := by decide +kernel
theorem zf7_29 : zf 7 29 = some (7, 5) := by decide +kernel
theorem zf7_35 : zf 7 35 = some (7, 6) := by decide +kernel
theorem zf7_39 : zf 7 39 = some (7, 7) := by decide +kernel
theorem zf7_258 : zf 7 258 = some (7, 8) := by decide +kernel
theorem zc9_13 : zc 9 13 = some 61 := by decide +kernel
theorem zc7_64 : zc 7 64 = some 103 := by decide +kernel
theorem zn7_64 : za 7 64 = false := by decide +kernel
theorem zc7_68 : zc 7 68 = some 104 := by decide +kernel
theorem zc7_72 : zc 7 72 = some 102 := by decide +kernel
theorem zk7_269 (ln pc : Nat) (ls : zO) (st : List zA) (σ : zS) : zstep 7 (.ldc 269) 2 pc ls st σ = some (pc + 2, ls, zI (-1000000000) :: st, σ) := by
  have h : zk 7 269 = some (-1000000000) := by decide +kernel
  simp only [zstep, h, zpush]
theorem zkw7_269 (ln pc : Nat) (ls : zO) (st : List zA) (σ : zS) : zstep 7 (.ldc_w 269) 3 pc ls st σ = some (pc + 3, ls, zI (-1000000000) :: st, σ) := by
  have h : zk 7 269 = some (-1000000000) := by decide +kernel
  simp only [zstep, h, zpush]
theorem zc7_80 : zc 7 80 = some 18 := by decide +kernel
theorem zc2_62 : zc 2 62 = some 22 := by decide +kernel
theorem zc2_70 : zc 2 70 = some 221 := by decide +kernel
theorem zn2_70 : za 2 70 = false := by decide +kernel
theorem zc9_18 : zc 9 18 = some 62 := by decide +kernel
theorem zc7_102 : zc 7 102 = some 22 := by decide +kernel
theorem zc7_105 : zc 7 105 = some 30 := by decide +kernel
theorem zc2_85 : zc 2 85 = some 32 := by decide +kernel
theorem zc2_97 : zc 2 97 = some 33 := by decide +kernel
theorem zc2_88 : zc 2 88 = some 1 := by decide +kernel
theorem zc0_25 : zc 0 25 = some 2 := by decide +kernel
theorem zn0_25 : za 0 25 = false := by decide +kernel
theorem zc0_29 : zc 0 29 = some 220 := by decide +kernel
theorem zn0_29 : za 0 29 = false := by decide +kernel
theorem zc0_35 : zc 0 35 = some 223 := by decide +kernel
theorem zn0_35 : za 0 35 = false := by decide +kernel
theorem zc0_38 : zc 0 38 = some 222 := by decide +kernel
theorem zn0_38 : za 0 38 = false := by decide +kernel
theorem zc7_108 : zc 7 108 = some 31 := by decide +kernel
theorem zc2_94 : zc 2 94 = some 34 := by decide +kernel
theorem zc9_23 : zc 9 23 = some 63 := by decide +kernel
theorem zc9_27 : zc 9 27 = some 64 := by decide +kernel
theorem zc7_111 : zc 7 111 = some 55 := by decide +kernel
theorem zn7_111 : za 7 111 = false := by decide +kernel
theorem zg6_15 : zg 6 15 = some 52 := by decide +kernel
theorem zc9_31 : zc 9 31 = some 65 := by decide +kernel
theorem zc7_114 : zc 7 114 = some 19 := by decide +kernel
theorem zc9_35 : zc 9 35 = some 66 := by decide +kernel
theorem zc7_117 : zc 7 117 = some 21 := by decide +kernel
theorem zc9_40 : zc 9 40 = some 67 := by decide +kernel
theorem zc9_45 : zc 9 45 = some 68 := by decide +kernel
theorem zc9_51 : zc 9 51 = some 69 := by decide +kernel
theorem zc7_133 : zc 7 133 = some 48 := by decide +kernel
theorem zc9_56 : zc 9 56 = some 70 := by decide +kernel
theorem zc7_135 : zc 7 135 = some 3 := by decide +kernel
theorem zc1_35 : zc 1 35 = some 4 := by decide +kernel
theorem zc1_50 : zc 1 50 = some 5 := by decide +kernel
theorem zc1_72 : zc 1 72 = some 15 := by decide +kernel
theorem zc1_53 : zc 1 53 = some 6 := by decide +kernel
theorem zn1_53 : za 1 53 = false := by decide +kernel
theorem zc1_75 : zc 1 75 = some 7 := by decide +kernel
theorem zn1_75 : za 1 75 = false := by decide +kernel
theorem zc1_57 : zc 1 57 = some 8 := by decide +kernel
theorem zn1_57 : za 1 57 = false := by decide +kernel
theorem zc1_60 : zc 1 60 = some 16 := by decide +kernel
theorem zc1_63 : zc 1 63 = some 9 := by decide +kernel
theorem zn1_63 : za 1 63 = false := by decide +kernel
theorem zg1_79 : zg 1 79 = some 51 := by decide +kernel
theorem zc1_69 : zc 1 69 = some 10 := by decide +kernel
theorem zc1_42 : zc 1 42 = some 11 := by decide +kernel
theorem zc1_83 : zc 1 83 = some 12 := by decide +kernel
theorem zc1_46 : zc 1 46 = some 13 := by decide +kernel
theorem zc1_87 : zc 1 87 = some 14 := by decide +kernel
theorem zn1_87 : za 1 87 = false := by decide +kernel
theorem zc7_139 : zc 7 139 = some 106 := by decide +kernel
theorem zc7_147 : zc 7 147 = some 0 := by decide +kernel
theorem zc9_60 : zc 9 60 = some 71 := by decide +kernel
theorem zc9_64 : zc 9 64 = some 72 := by decide +kernel
theorem zc7_154 : zc 7 154 = some 1 := by decide +kernel
theorem zc9_68 : zc 9 68 = some 73 := by decide +kernel
theorem zc7_161 : zc 7 161 = some 35 := by decide +kernel
theorem zc2_100 : zc 2 100 = some 36 := by decide +kernel
theorem zc2_103 : zc 2 103 = some 31 := by decide +kernel
theorem zc2_106 : zc 2 106 = some 39 := by decide +kernel
theorem zc2_115 : zc 2 115 = some 40 := by decide +kernel
theorem za2_47 : za 2 47 = true := by decide +kernel
theorem zc2_121 : zc 2 121 = some 42 := by decide +kernel
theorem zc2_124 : zc 2 124 = some 45 := by decide +kernel
theorem zc2_128 : zc 2 128 = some 43 := by decide +kernel
theorem zc2_131 : zc 2 131 = some 30 := by decide +kernel
theorem zc2_134 : zc 2 134 = some 41 := by decide +kernel
theorem zc2_137 : zc 2 137 = some 44 := by decide +kernel
theorem zc2_141 : zc 2 141 = some 46 := by decide +kernel
theorem zc2_148 : zc 2 148 = some 21 := by decide +kernel
theorem zc2_145 : zc 2 145 = some 47 := by decide +kernel
theorem zc9_72 : zc 9 72 = some 74 := by decide +kernel
theorem zc7_167 : zc 7 167 = some 37 := by decide +kernel
theorem zc2_110 : zc 2 110 = some 38 := by decide +kernel
theorem zk2_114 (ln pc : Nat) (ls : zO) (st : List zA) (σ : zS) : zstep 2 (.ldc 114) 2 pc ls st σ = some (pc + 2, ls, zI (1103515245) :: st, σ) := by
  have h : zk 2 114 = some (1103515245) := by decide +kernel
  simp only [zstep, h, zpush]
theorem zkw2_114 (ln pc : Nat) (ls : zO) (st : List zA) (σ : zS) : zstep 2 (.ldc_w 114) 3 pc ls st σ = some (pc + 3, ls, zI (1103515245) :: st, σ) := by
  have h : zk 2 114 = some (1103515245) := by decide +kernel
  simp only [zstep, h, zpush]
theorem zc7_170 : zc 7 170 = some 36 := by decide +kernel
theorem zc9_76 : zc 9 76 = some 75 := by decide +kernel
theorem zc9_80 : zc 9 80 = some 76 := by decide +kernel
theorem zc9_84 : zc 9 84 = some 77 := by decide +kernel
theorem zc7_176 : zc 7 176 = some 24 := by decide +kernel
theorem zc9_88 : zc 9 88 = some 78 := by decide +kernel
theorem zc7_179 : zc 7 179 = some 25 := by decide +kernel
theorem zc9_92 : zc 9 92 = some 79 := by decide +kernel
theorem zc7_183 : zc 7 183 = some 28 := by decide +kernel
theorem zc2_66 : zc 2 66 = some 19 := by decide +kernel
theorem zc2_79 : zc 2 79 = some 26 := by decide +kernel
theorem zc2_75 : zc 2 75 = some 223 := by decide +kernel
theorem zn2_75 : za 2 75 = false := by decide +kernel
theorem zc2_82 : zc 2 82 = some 27 := by decide +kernel
theorem zc9_96 : zc 9 96 = some 80 := by decide +kernel
theorem zc7_186 : zc 7 186 = some 219 := by decide +kernel
theorem zn7_186 : za 7 186 = false := by decide +kernel
theorem zk10_265 (ln pc : Nat) (ls : zO) (st : List zA) (σ : zS) : zstep 10 (.ldc 265) 2 pc ls st σ = some (pc + 2, ls, zI (1431655765) :: st, σ) := by
  have h : zk 10 265 = some (1431655765) := by decide +kernel
  simp only [zstep, h, zpush]
theorem zkw10_265 (ln pc : Nat) (ls : zO) (st : List zA) (σ : zS) : zstep 10 (.ldc_w 265) 3 pc ls st σ = some (pc + 3, ls, zI (1431655765) :: st, σ) := by
  have h : zk 10 265 = some (1431655765) := by decide +kernel
  simp only [zstep, h, zpush]
theorem zk10_266 (ln pc : Nat) (ls : zO) (st : List zA) (σ : zS) : zstep 10 (.ldc 266) 2 pc ls st σ = some (pc + 2, ls, zI (858993459) :: st, σ) := by
  have h : zk 10 266 = some (858993459) := by decide +kernel
  simp only [zstep, h, zpush]
theorem zkw10_266 (ln pc : Nat) (ls : zO) (st : List zA) (σ : zS) : zstep 10 (.ldc_w 266) 3 pc ls st σ = some (pc + 3, ls, zI (858993459) :: st, σ) := by
  have h : zk 10 266 = some (858993459) := by decide +kernel
  simp only [zstep, h, zpush]
theorem zk10_267 (ln pc : Nat) (ls : zO) (st : List zA) (σ : zS) : zstep 10 (.ldc 267) 2 pc ls st σ = some (pc + 2, ls, zI (252645135) :: st, σ) := by
  have h : zk 10 267 = some (252645135) := by decide +kernel
  simp only [zstep, h, zpush]
theorem zkw10_267 (ln pc : Nat) (ls : zO) (st : List zA) (σ : zS) : zstep 10 (.ldc_w 267) 3 pc ls st σ = some (pc + 3, ls, zI (252645135) :: st, σ) := by
  have h : zk 10 267 = some (252645135) := by decide +kernel
  simp only [zstep, h, zpush]
theorem zc9_100 : zc 9 100 = some 81 := by decide +kernel
theorem zc7_191 : zc 7 191 = some 29 := by decide +kernel
theorem zc9_105 : zc 9 105 = some 82 := by decide +kernel
theorem zc7_194 : zc 7 194 = some 17 := by decide +kernel
theorem zc9_109 : zc 9 109 = some 83 := by decide +kernel
theorem zc7_198 : zc 7 198 = some 20 := by decide +kernel
theorem zc9_113 : zc 9 113 = some 84 := by decide +kernel
theorem zc9_117 : zc 9 117 = some 85 := by decide +kernel
theorem zc7_202 : zc 7 202 = some 107 := by decide +kernel
theorem zc9_121 : zc 9 121 = some 86 := by decide +kernel
theorem zc7_206 : zc 7 206 = some 108 := by decide +kernel
theorem zc9_125 : zc 9 125 = some 87 := by decide +kernel
theorem zc9_129 : zc 9 129 = some 88 := by decide +kernel
theorem zc7_209 : zc 7 209 = some 105 := by decide +kernel
theorem zn7_209 : za 7 209 = false := by decide +kernel
theorem zc7_212 : zc 7 212 = some 50 := by decide +kernel
theorem zc7_216 : zc 7 216 = some 109 := by decide +kernel
theorem zc9_133 : zc 9 133 = some 89 := by decide +kernel
theorem zc7_220 : zc 7 220 = some 56 := by decide +kernel
theorem zc6_35 : zc 6 35 = some 57 := by decide +kernel
theorem zc6_39 : zc 6 39 = some 60 := by decide +kernel
theorem zn6_39 : za 6 39 = false := by decide +kernel
theorem zg6_50 : zg 6 50 = some 53 := by decide +kernel
theorem zc6_43 : zc 6 43 = some 58 := by decide +kernel
theorem zc6_47 : zc 6 47 = some 59 := by decide +kernel
theorem zc9_137 : zc 9 137 = some 90 := by decide +kernel
theorem zc9_141 : zc 9 141 = some 91 := by decide +kernel
theorem zc7_232 : zc 7 232 = some 51 := by decide +kernel
theorem zc9_145 : zc 9 145 = some 92 := by decide +kernel
theorem zc7_237 : zc 7 237 = some 52 := by decide +kernel
theorem zc9_149 : zc 9 149 = some 93 := by decide +kernel
theorem zc7_243 : zc 7 243 = some 53 := by decide +kernel
theorem za7_249 : za 7 249 = true := by decide +kernel
theorem zc9_154 : zc 9 154 = some 94 := by decide +kernel
theorem zc9_158 : zc 9 158 = some 95 := by decide +kernel
theorem zc9_162 : zc 9 162 = some 96 := by decide +kernel
theorem zc7_255 : zc 7 255 = some 54 := by decide +kernel
theorem zc5_50 : zc 5 50 = some 0 := by decide +kernel
theorem zc5_54 : zc 5 54 = some 17 := by decide +kernel
theorem zc5_58 : zc 5 58 = some 49 := by decide +kernel
theorem zc9_166 : zc 9 166 = some 97 := by decide +kernel
theorem zc9_170 : zc 9 170 = some 98 := by decide +kernel
theorem zc9_174 : zc 9 174 = some 99 := by decide +kernel
theorem zc9_178 : zc 9 178 = some 100 := by decide +kernel
theorem zc7_265 : zc 7 265 = some 23 := by decide +kernel
theorem zc9_182 : zc 9 182 = some 101 := by decide +kernel
theorem zf8_7 : zf 8 7 = some (8, 0) := by decide +kernel
theorem zf8_13 : zf 8 13 = some (8, 1) := by decide +kernel
theorem zf8_16 : zf 8 16 = some (8, 2) := by decide +kernel
theorem zf8_19 : zf 8 19 = some (8, 3) := by decide +kernel
theorem zf8_293 : zf 8 293 = some (8, 4) := by decide +kernel
theorem zf8_22 : zf 8 22 = some (8, 5) := by decide +kernel
theorem zf8_64 : zf 8 64 = some (8, 6) := by decide +kernel
theorem zf8_98 : zf 8 98 = some (8, 7) := by decide +kernel
theorem zf8_71 : zf 8 71 = some (8, 8) := by decide +kernel
theorem zf8_68 : zf 8 68 = some (8, 9) := by decide +kernel
theorem zf8_25 : zf 8 25 = some (8, 10) := by decide +kernel
theorem zf8_28 : zf 8 28 = some (8, 11) := by decide +kernel
theorem zf8_31 : zf 8 31 = some (8, 12) := by decide +kernel
theorem zf8_157 : zf 8 157 = some (8, 13) := by decide +kernel
theorem zf8_255 : zf 8 255 = some (8, 14) := by decide +kernel
theorem zf8_34 : zf 8 34 = some (8, 15) := by decide +kernel
theorem zf8_258 : zf 8 258 = some (8, 16) := by decide +kernel
theorem zf8_279 : zf 8 279 = some (8, 17) := by decide +kernel
theorem zf8_37 : zf 8 37 = some (8, 18) := by decide +kernel
theorem zf8_40 : zf 8 40 = some (8, 19) := by decide +kernel
theorem zf8_43 : zf 8 43 = some (8, 20) := by decide +kernel
theorem zf8_46 : zf 8 46 = some (8, 21) := by decide +kernel
theorem zc9_55 : zc 9 55 = some 122 := by decide +kernel
theorem zc8_50 : zc 8 50 = some 111 := by decide +kernel
theorem zn8_50 : za 8 50 = false := by decide +kernel
theorem zc8_58 : zc 8 58 = some 110 := by decide +kernel
theorem zk8_49 (ln pc : Nat) (ls : zO) (st : List zA) (σ : zS) : zstep 8 (.ldc 49) 2 pc ls st σ = some (pc + 2, ls, zI (-1000000000) :: st, σ) := by
  have h : zk 8 49 = some (-1000000000) := by decide +kernel
  simp only [zstep, h, zpush]
theorem zkw8_49 (ln pc : Nat) (ls : zO) (st : List zA) (σ : zS) : zstep 8 (.ldc_w 49) 3 pc ls st σ = some (pc + 3, ls, zI (-1000000000) :: st, σ) := by
  have h : zk 8 49 = some (-1000000000) := by decide +kernel
  simp only [zstep, h, zpush]
theorem zkl8_62 (ln pc : Nat) (ls : zO) (st : List zA) (σ : zS) : zstep 8 (.ldc2_w 62) 3 pc ls st σ = some (pc + 3, ls, zL (255) :: st, σ) := by
  have h : zkL 8 62 = some (255) := by decide +kernel
  simp only [zstep, h, zpush]
theorem zc9_59 : zc 9 59 = some 134 := by decide +kernel
theorem zc8_108 : zc 8 108 = some 126 := by decide +kernel
theorem zc8_74 : zc 8 74 = some 127 := by decide +kernel
theorem zc8_86 : zc 8 86 = some 128 := by decide +kernel
theorem zc8_89 : zc 8 89 = some 129 := by decide +kernel
theorem zc8_92 : zc 8 92 = some 130 := by decide +kernel
theorem zc8_95 : zc 8 95 = some 132 := by decide +kernel
theorem zc8_78 : zc 8 78 = some 123 := by decide +kernel
theorem zc8_101 : zc 8 101 = some 124 := by decide +kernel
theorem zc8_82 : zc 8 82 = some 125 := by decide +kernel
theorem zc8_105 : zc 8 105 = some 131 := by decide +kernel
theorem zc9_63 : zc 9 63 = some 135 := by decide +kernel
theorem zc8_111 : zc 8 111 = some 133 := by decide +kernel
theorem zc9_17 : zc 9 17 = some 159 := by decide +kernel
theorem zc8_191 : zc 8 191 = some 158 := by decide +kernel
theorem zn8_191 : za 8 191 = false := by decide +kernel
theorem zc8_172 : zc 8 172 = some 117 := by decide +kernel
theorem zn8_172 : za 8 172 = false := by decide +kernel
theorem zc8_149 : zc 8 149 = some 119 := by decide +kernel
theorem zc8_146 : zc 8 146 = some 146 := by decide +kernel
theorem zc8_140 : zc 8 140 = some 121 := by decide +kernel
theorem zc8_54 : zc 8 54 = some 118 := by decide +kernel
theorem zc8_143 : zc 8 143 = some 145 := by decide +kernel
theorem zn8_143 : za 8 143 = false := by decide +kernel
theorem zc9_22 : zc 9 22 = some 160 := by decide +kernel
theorem zc8_194 : zc 8 194 = some 116 := by decide +kernel
theorem zc8_166 : zc 8 166 = some 143 := by decide +kernel
theorem zc8_130 : zc 8 130 = some 139 := by decide +kernel
theorem zc8_118 : zc 8 118 = some 138 := by decide +kernel
theorem zc8_133 : zc 8 133 = some 142 := by decide +kernel
theorem zc8_121 : zc 8 121 = some 137 := by decide +kernel
theorem zc8_114 : zc 8 114 = some 136 := by decide +kernel
theorem zn8_114 : za 8 114 = false := by decide +kernel
theorem zc8_124 : zc 8 124 = some 141 := by decide +kernel
theorem zn8_124 : za 8 124 = false := by decide +kernel
theorem zc8_127 : zc 8 127 = some 112 := by decide +kernel
theorem zn8_127 : za 8 127 = false := by decide +kernel
theorem zc8_181 : zc 8 181 = some 144 := by decide +kernel
theorem zc8_137 : zc 8 137 = some 140 := by decide +kernel
theorem zc9_26 : zc 9 26 = some 161 := by decide +kernel
theorem zc9_30 : zc 9 30 = some 162 := by decide +kernel
theorem zc8_197 : zc 8 197 = some 197 := by decide +kernel
theorem zn8_197 : za 8 197 = false := by decide +kernel
theorem zc9_34 : zc 9 34 = some 163 := by decide +kernel
theorem zc8_200 : zc 8 200 = some 120 := by decide +kernel
theorem zc9_39 : zc 9 39 = some 164 := by decide +kernel
theorem zc8_153 : zc 8 153 = some 148 := by decide +kernel
theorem zc9_44 : zc 9 44 = some 166 := by decide +kernel
theorem zc8_203 : zc 8 203 = some 165 := by decide +kernel
theorem zn8_203 : za 8 203 = false := by decide +kernel
theorem zc9_48 : zc 9 48 = some 167 := by decide +kernel
theorem zc9_67 : zc 9 67 = some 168 := by decide +kernel
theorem zc9_71 : zc 9 71 = some 169 := by decide +kernel
theorem zc8_206 : zc 8 206 = some 155 := by decide +kernel
theorem zc8_188 : zc 8 188 = some 154 := by decide +kernel
theorem zc8_184 : zc 8 184 = some 153 := by decide +kernel
theorem zc8_175 : zc 8 175 = some 147 := by decide +kernel
theorem zc8_178 : zc 8 178 = some 152 := by decide +kernel
theorem zc8_160 : zc 8 160 = some 150 := by decide +kernel
theorem zc8_163 : zc 8 163 = some 149 := by decide +kernel
theorem zc8_169 : zc 8 169 = some 151 := by decide +kernel
theorem zc9_75 : zc 9 75 = some 171 := by decide +kernel
theorem zc8_210 : zc 8 210 = some 170 := by decide +kernel
theorem zk8_209 (ln pc : Nat) (ls : zO) (st : List zA) (σ : zS) : zstep 8 (.ldc 209) 2 pc ls st σ = some (pc + 2, ls, zI (1103515245) :: st, σ) := by
  have h : zk 8 209 = some (1103515245) := by decide +kernel
  simp only [zstep, h, zpush]
theorem zkw8_209 (ln pc : Nat) (ls : zO) (st : List zA) (σ : zS) : zstep 8 (.ldc_w 209) 3 pc ls st σ = some (pc + 3, ls, zI (1103515245) :: st, σ) := by
  have h : zk 8 209 = some (1103515245) := by decide +kernel
  simp only [zstep, h, zpush]
theorem zc9_79 : zc 9 79 = some 172 := by decide +kernel
theorem zc9_83 : zc 9 83 = some 173 := by decide +kernel
theorem zc9_87 : zc 9 87 = some 175 := by decide +kernel
theorem zc8_213 : zc 8 213 = some 174 := by decide +kernel
theorem zc9_91 : zc 9 91 = some 177 := by decide +kernel
theorem zc8_216 : zc 8 216 = some 176 := by decide +kernel
theorem zc9_95 : zc 9 95 = some 182 := by decide +kernel
theorem zc8_225 : zc 8 225 = some 180 := by decide +kernel
theorem zc8_219 : zc 8 219 = some 178 := by decide +kernel
theorem zc8_222 : zc 8 222 = some 179 := by decide +kernel
theorem zc9_99 : zc 9 99 = some 183 := by decide +kernel
theorem zc8_228 : zc 8 228 = some 181 := by decide +kernel
theorem zn8_228 : za 8 228 = false := by decide +kernel
theorem zc9_104 : zc 9 104 = some 185 := by decide +kernel
theorem zc8_231 : zc 8 231 = some 184 := by decide +kernel
theorem zc9_108 : zc 9 108 = some 186 := by decide +kernel
theorem zc8_234 : zc 8 234 = some 114 := by decide +kernel
theorem zc8_237 : zc 8 237 = some 115 := by decide +kernel
theorem zc9_112 : zc 9 112 = some 187 := by decide +kernel
theorem zc8_240 : zc 8 240 = some 156 := by decide +kernel
theorem zc9_116 : zc 9 116 = some 188 := by decide +kernel
theorem zc9_120 : zc 9 120 = some 190 := by decide +kernel
theorem zc8_243 : zc 8 243 = some 189 := by decide +kernel
theorem zc9_124 : zc 9 124 = some 192 := by decide +kernel
theorem zc8_246 : zc 8 246 = some 191 := by decide +kernel
theorem zc9_128 : zc 9 128 = some 194 := by decide +kernel
theorem zc8_249 : zc 8 249 = some 193 := by decide +kernel
theorem zn8_249 : za 8 249 = false := by decide +kernel
theorem zc9_132 : zc 9 132 = some 195 := by decide +kernel
theorem zc8_252 : zc 8 252 = some 206 := by decide +kernel
theorem zn8_252 : za 8 252 = false := by decide +kernel
theorem zc9_136 : zc 9 136 = some 204 := by decide +kernel
theorem zc8_267 : zc 8 267 = some 198 := by decide +kernel
theorem zc8_264 : zc 8 264 = some 200 := by decide +kernel
theorem zc8_261 : zc 8 261 = some 196 := by decide +kernel
theorem zc8_270 : zc 8 270 = some 201 := by decide +kernel
theorem zc8_273 : zc 8 273 = some 199 := by decide +kernel
theorem zc8_276 : zc 8 276 = some 202 := by decide +kernel
theorem zc8_283 : zc 8 283 = some 203 := by decide +kernel
theorem zc9_140 : zc 9 140 = some 205 := by decide +kernel
theorem zc9_144 : zc 9 144 = some 207 := by decide +kernel
theorem zc9_148 : zc 9 148 = some 208 := by decide +kernel
theorem zc9_153 : zc 9 153 = some 209 := by decide +kernel
theorem zc9_157 : zc 9 157 = some 211 := by decide +kernel
theorem zc8_286 : zc 8 286 = some 210 := by decide +kernel
theorem zc9_161 : zc 9 161 = some 212 := by decide +kernel
theorem zc9_165 : zc 9 165 = some 213 := by decide +kernel
theorem zc8_289 : zc 8 289 = some 113 := by decide +kernel
theorem zn8_289 : za 8 289 = false := by decide +kernel
theorem zc9_169 : zc 9 169 = some 214 := by decide +kernel
theorem zc9_173 : zc 9 173 = some 215 := by decide +kernel
theorem zc9_177 : zc 9 177 = some 216 := by decide +kernel
theorem zc9_181 : zc 9 181 = some 217 := by decide +kernel
theorem zc8_296 : zc 8 296 = some 157 := by decide +kernel
theorem zc9_185 : zc 9 185 = some 218 := by decide +kernel
theorem zkl9_49 (ln pc : Nat) (ls : zO) (st : List zA) (σ : zS) : zstep 9 (.ldc2_w 49) 3 pc ls st σ = some (pc + 3, ls, zL (4294967295) :: st, σ) := by
  have h : zkL 9 49 = some (4294967295) := by decide +kernel
  simp only [zstep, h, zpush]
theorem zm0 : zst 0 = false ∧ zna 0 = 3 ∧ zn 0 = 4 := by decide +kernel
theorem zr0 : zr 0 = none := by decide +kernel
theorem zo0 : zo 0 = 0 := by decide +kernel
theorem zm1 : zst 1 = false ∧ zna 1 = 4 ∧ zn 1 = 7 := by decide +kernel
theorem zr1 : zr 1 = some .int := by decide +kernel
theorem zo1 : zo 1 = 0 := by decide +kernel
theorem zm2 : zst 2 = true ∧ zna 2 = 3 ∧ zn 2 = 3 := by decide +kernel
theorem zr2 : zr 2 = some .int := by decide +kernel
theorem zo2 : zo 2 = 0 := by decide +kernel
theorem zm3 : zst 3 = false ∧ zna 3 = 3 ∧ zn 3 = 6 := by decide +kernel
theorem zr3 : zr 3 = some .int := by decide +kernel
theorem zo3 : zo 3 = 1 := by decide +kernel
theorem zm4 : zst 4 = false ∧ zna 4 = 4 ∧ zn 4 = 7 := by decide +kernel
theorem zr4 : zr 4 = some .int := by decide +kernel
theorem zo4 : zo 4 = 1 := by decide +kernel
theorem zm5 : zst 5 = false ∧ zna 5 = 2 ∧ zn 5 = 2 := by decide +kernel
theorem zr5 : zr 5 = some .int := by decide +kernel
theorem zo5 : zo 5 = 1 := by decide +kernel
theorem zm6 : zst 6 = true ∧ zna 6 = 2 ∧ zn 6 = 4 := by decide +kernel
theorem zr6 : zr 6 = some .int := by decide +kernel
theorem zo6 : zo 6 = 1 := by decide +kernel
theorem zm7 : zst 7 = true ∧ zna 7 = 1 ∧ zn 7 = 1 := by decide +kernel
theorem zr7 : zr 7 = some .boolean := by decide +kernel
theorem zo7 : zo 7 = 1 := by decide +kernel
theorem zm8 : zst 8 = true ∧ zna 8 = 3 ∧ zn 8 = 5 := by decide +kernel
theorem zr8 : zr 8 = some .int := by decide +kernel
theorem zo8 : zo 8 = 1 := by decide +kernel
theorem zm9 : zst 9 = true ∧ zna 9 = 2 ∧ zn 9 = 3 := by decide +kernel
theorem zr9 : zr 9 = some .int := by decide +kernel
theorem zo9 : zo 9 = 1 := by decide +kernel
theorem zm10 : zst 10 = false ∧ zna 10 = 1 ∧ zn 10 = 2 := by decide +kernel
theorem zr10 : zr 10 = none := by decide +kernel
theorem zo10 : zo 10 = 1 := by decide +kernel
theorem zm11 : zst 11 = false ∧ zna 11 = 2 ∧ zn 11 = 3 := by decide +kernel
theorem zr11 : zr 11 = some .int := by decide +kernel
theorem zo11 : zo 11 = 1 := by decide +kernel
theorem zm12 : zst 12 = false ∧ zna 12 = 1 ∧ zn 12 = 1 := by decide +kernel
theorem zr12 : zr 12 = some .int := by decide +kernel
theorem zo12 : zo 12 = 1 := by decide +kernel
theorem zm13 : zst 13 = false ∧ zna 13 = 2 ∧ zn 13 = 3 := by decide +kernel
theorem zr13 : zr 13 = none := by decide +kernel
theorem zo13 : zo 13 = 1 := by decide +kernel
theorem zm14 : zst 14 = true ∧ zna 14 = 1 ∧ zn 14 = 1 := by decide +kernel
theorem zr14 : zr 14 = some .int := by decide +kernel
theorem zo14 : zo 14 = 1 := by decide +kernel
theorem zm15 : zst 15 = false ∧ zna 15 = 2 ∧ zn 15 = 2 := by decide +kernel
theorem zr15 : zr 15 = none := by decide +kernel
theorem zo15 : zo 15 = 1 := by decide +kernel
theorem zm16 : zst 16 = false ∧ zna 16 = 2 ∧ zn 16 = 2 := by decide +kernel
theorem zr16 : zr 16 = none := by decide +kernel
theorem zo16 : zo 16 = 1 := by decide +kernel
theorem zm17 : zst 17 = false ∧ zna 17 = 2 ∧ zn 17 = 2 := by decide +kernel
theorem zr17 : zr 17 = none := by decide +kernel
theorem zo17 : zo 17 = 2 := by decide +kernel
theorem zm18 : zst 18 = false ∧ zna 18 = 5 ∧ zn 18 = 6 := by decide +kernel
theorem zr18 : zr 18 = some .int := by decide +kernel
theorem zo18 : zo 18 = 2 := by decide +kernel
theorem zm19 : zst 19 = false ∧ zna 19 = 2 ∧ zn 19 = 2 := by decide +kernel
theorem zr19 : zr 19 = some .boolean := by decide +kernel
theorem zo19 : zo 19 = 2 := by decide +kernel
theorem zm20 : zst 20 = false ∧ zna 20 = 1 ∧ zn 20 = 3 := by decide +kernel
theorem zr20 : zr 20 = some .int := by decide +kernel
theorem zo20 : zo 20 = 2 := by decide +kernel
theorem zm21 : zst 21 = false ∧ zna 21 = 2 ∧ zn 21 = 2 := by decide +kernel
theorem zr21 : zr 21 = none := by decide +kernel
theorem zo21 : zo 21 = 2 := by decide +kernel
theorem zm22 : zst 22 = false ∧ zna 22 = 2 ∧ zn 22 = 3 := by decide +kernel
theorem zr22 : zr 22 = some .int := by decide +kernel
theorem zo22 : zo 22 = 2 := by decide +kernel
theorem zm23 : zst 23 = false ∧ zna 23 = 2 ∧ zn 23 = 4 := by decide +kernel
theorem zr23 : zr 23 = some .int := by decide +kernel
theorem zo23 : zo 23 = 2 := by decide +kernel
theorem zm24 : zst 24 = false ∧ zna 24 = 2 ∧ zn 24 = 5 := by decide +kernel
theorem zr24 : zr 24 = some .int := by decide +kernel
theorem zo24 : zo 24 = 2 := by decide +kernel
theorem zm25 : zst 25 = false ∧ zna 25 = 3 ∧ zn 25 = 6 := by decide +kernel
theorem zr25 : zr 25 = some .int := by decide +kernel
theorem zo25 : zo 25 = 2 := by decide +kernel
theorem zm26 : zst 26 = false ∧ zna 26 = 2 ∧ zn 26 = 3 := by decide +kernel
theorem zr26 : zr 26 = some .int := by decide +kernel
theorem zo26 : zo 26 = 2 := by decide +kernel
theorem zm27 : zst 27 = false ∧ zna 27 = 2 ∧ zn 27 = 2 := by decide +kernel
theorem zr27 : zr 27 = some .int := by decide +kernel
theorem zo27 : zo 27 = 2 := by decide +kernel
theorem zm28 : zst 28 = false ∧ zna 28 = 2 ∧ zn 28 = 4 := by decide +kernel
theorem zr28 : zr 28 = some .int := by decide +kernel
theorem zo28 : zo 28 = 2 := by decide +kernel
theorem zm29 : zst 29 = false ∧ zna 29 = 3 ∧ zn 29 = 5 := by decide +kernel
theorem zr29 : zr 29 = some .boolean := by decide +kernel
theorem zo29 : zo 29 = 2 := by decide +kernel
theorem zm30 : zst 30 = false ∧ zna 30 = 2 ∧ zn 30 = 2 := by decide +kernel
theorem zr30 : zr 30 = some .int := by decide +kernel
theorem zo30 : zo 30 = 2 := by decide +kernel
theorem zm31 : zst 31 = false ∧ zna 31 = 2 ∧ zn 31 = 2 := by decide +kernel
theorem zr31 : zr 31 = some .int := by decide +kernel
theorem zo31 : zo 31 = 2 := by decide +kernel
theorem zm32 : zst 32 = false ∧ zna 32 = 2 ∧ zn 32 = 2 := by decide +kernel
theorem zr32 : zr 32 = some .int := by decide +kernel
theorem zo32 : zo 32 = 2 := by decide +kernel
theorem zm33 : zst 33 = false ∧ zna 33 = 2 ∧ zn 33 = 3 := by decide +kernel
theorem zr33 : zr 33 = some .boolean := by decide +kernel
theorem zo33 : zo 33 = 2 := by decide +kernel
theorem zm34 : zst 34 = false ∧ zna 34 = 2 ∧ zn 34 = 2 := by decide +kernel
theorem zr34 : zr 34 = some .int := by decide +kernel
theorem zo34 : zo 34 = 2 := by decide +kernel
theorem zm35 : zst 35 = false ∧ zna 35 = 2 ∧ zn 35 = 3 := by decide +kernel
theorem zr35 : zr 35 = none := by decide +kernel
theorem zo35 : zo 35 = 2 := by decide +kernel
theorem zm36 : zst 36 = false ∧ zna 36 = 1 ∧ zn 36 = 6 := by decide +kernel
theorem zr36 : zr 36 = none := by decide +kernel
theorem zo36 : zo 36 = 2 := by decide +kernel
theorem zm37 : zst 37 = false ∧ zna 37 = 1 ∧ zn 37 = 3 := by decide +kernel
theorem zr37 : zr 37 = none := by decide +kernel
theorem zo37 : zo 37 = 2 := by decide +kernel
theorem zm38 : zst 38 = false ∧ zna 38 = 1 ∧ zn 38 = 1 := by decide +kernel
theorem zr38 : zr 38 = some .int := by decide +kernel
theorem zo38 : zo 38 = 2 := by decide +kernel
theorem zm39 : zst 39 = false ∧ zna 39 = 3 ∧ zn 39 = 8 := by decide +kernel
theorem zr39 : zr 39 = some .boolean := by decide +kernel
theorem zo39 : zo 39 = 2 := by decide +kernel
theorem zm40 : zst 40 = false ∧ zna 40 = 1 ∧ zn 40 = 1 := by decide +kernel
theorem zr40 : zr 40 = none := by decide +kernel
theorem zo40 : zo 40 = 2 := by decide +kernel
theorem zm41 : zst 41 = false ∧ zna 41 = 1 ∧ zn 41 = 1 := by decide +kernel
theorem zr41 : zr 41 = none := by decide +kernel
theorem zo41 : zo 41 = 2 := by decide +kernel
theorem zm42 : zst 42 = false ∧ zna 42 = 1 ∧ zn 42 = 3 := by decide +kernel
theorem zr42 : zr 42 = some .int := by decide +kernel
theorem zo42 : zo 42 = 2 := by decide +kernel
theorem zm43 : zst 43 = false ∧ zna 43 = 2 ∧ zn 43 = 3 := by decide +kernel
theorem zr43 : zr 43 = some .int := by decide +kernel
theorem zo43 : zo 43 = 2 := by decide +kernel
theorem zm44 : zst 44 = false ∧ zna 44 = 4 ∧ zn 44 = 4 := by decide +kernel
theorem zr44 : zr 44 = none := by decide +kernel
theorem zo44 : zo 44 = 2 := by decide +kernel
theorem zm45 : zst 45 = false ∧ zna 45 = 3 ∧ zn 45 = 3 := by decide +kernel
theorem zr45 : zr 45 = none := by decide +kernel
theorem zo45 : zo 45 = 2 := by decide +kernel
theorem zm46 : zst 46 = false ∧ zna 46 = 2 ∧ zn 46 = 2 := by decide +kernel
theorem zr46 : zr 46 = none := by decide +kernel
theorem zo46 : zo 46 = 2 := by decide +kernel
theorem zm47 : zst 47 = false ∧ zna 47 = 3 ∧ zn 47 = 3 := by decide +kernel
theorem zr47 : zr 47 = none := by decide +kernel
theorem zo47 : zo 47 = 2 := by decide +kernel
theorem zm48 : zst 48 = false ∧ zna 48 = 2 ∧ zn 48 = 2 := by decide +kernel
theorem zr48 : zr 48 = none := by decide +kernel
theorem zo48 : zo 48 = 3 := by decide +kernel
theorem zm49 : zst 49 = false ∧ zna 49 = 2 ∧ zn 49 = 3 := by decide +kernel
theorem zr49 : zr 49 = none := by decide +kernel
theorem zo49 : zo 49 = 3 := by decide +kernel
theorem zm50 : zst 50 = false ∧ zna 50 = 1 ∧ zn 50 = 1 := by decide +kernel
theorem zr50 : zr 50 = some .boolean := by decide +kernel
theorem zo50 : zo 50 = 4 := by decide +kernel
theorem zm51 : zst 51 = false ∧ zna 51 = 3 ∧ zn 51 = 4 := by decide +kernel
theorem zr51 : zr 51 = none := by decide +kernel
theorem zo51 : zo 51 = 4 := by decide +kernel
theorem zm52 : zst 52 = false ∧ zna 52 = 3 ∧ zn 52 = 3 := by decide +kernel
theorem zr52 : zr 52 = none := by decide +kernel
theorem zo52 : zo 52 = 4 := by decide +kernel
theorem zm53 : zst 53 = false ∧ zna 53 = 3 ∧ zn 53 = 3 := by decide +kernel
theorem zr53 : zr 53 = some .boolean := by decide +kernel
theorem zo53 : zo 53 = 4 := by decide +kernel
theorem zm54 : zst 54 = false ∧ zna 54 = 2 ∧ zn 54 = 2 := by decide +kernel
theorem zr54 : zr 54 = none := by decide +kernel
theorem zo54 : zo 54 = 5 := by decide +kernel
theorem zm55 : zst 55 = true ∧ zna 55 = 2 ∧ zn 55 = 4 := by decide +kernel
theorem zr55 : zr 55 = some .boolean := by decide +kernel
theorem zo55 : zo 55 = 6 := by decide +kernel
theorem zm56 : zst 56 = false ∧ zna 56 = 6 ∧ zn 56 = 6 := by decide +kernel
theorem zr56 : zr 56 = some .int := by decide +kernel
theorem zo56 : zo 56 = 6 := by decide +kernel
theorem zm57 : zst 57 = false ∧ zna 57 = 5 ∧ zn 57 = 6 := by decide +kernel
theorem zr57 : zr 57 = some .int := by decide +kernel
theorem zo57 : zo 57 = 6 := by decide +kernel
theorem zm58 : zst 58 = false ∧ zna 58 = 4 ∧ zn 58 = 4 := by decide +kernel
theorem zr58 : zr 58 = some .int := by decide +kernel
theorem zo58 : zo 58 = 6 := by decide +kernel
theorem zm59 : zst 59 = false ∧ zna 59 = 4 ∧ zn 59 = 6 := by decide +kernel
theorem zr59 : zr 59 = some .int := by decide +kernel
theorem zo59 : zo 59 = 6 := by decide +kernel
theorem zm60 : zst 60 = true ∧ zna 60 = 2 ∧ zn 60 = 5 := by decide +kernel
theorem zr60 : zr 60 = some .int := by decide +kernel
theorem zo60 : zo 60 = 6 := by decide +kernel
theorem zm61 : zst 61 = false ∧ zna 61 = 5 ∧ zn 61 = 6 := by decide +kernel
theorem zr61 : zr 61 = some .int := by decide +kernel
theorem zo61 : zo 61 = 7 := by decide +kernel
theorem zm62 : zst 62 = false ∧ zna 62 = 3 ∧ zn 62 = 3 := by decide +kernel
theorem zr62 : zr 62 = some .int := by decide +kernel
theorem zo62 : zo 62 = 7 := by decide +kernel
theorem zm63 : zst 63 = false ∧ zna 63 = 3 ∧ zn 63 = 4 := by decide +kernel
theorem zr63 : zr 63 = some .int := by decide +kernel
theorem zo63 : zo 63 = 7 := by decide +kernel
theorem zm64 : zst 64 = false ∧ zna 64 = 3 ∧ zn 64 = 3 := by decide +kernel
theorem zr64 : zr 64 = some .int := by decide +kernel
theorem zo64 : zo 64 = 7 := by decide +kernel
theorem zm65 : zst 65 = false ∧ zna 65 = 3 ∧ zn 65 = 4 := by decide +kernel
theorem zr65 : zr 65 = some .int := by decide +kernel
theorem zo65 : zo 65 = 7 := by decide +kernel
theorem zm66 : zst 66 = false ∧ zna 66 = 2 ∧ zn 66 = 3 := by decide +kernel
theorem zr66 : zr 66 = some .int := by decide +kernel
theorem zo66 : zo 66 = 7 := by decide +kernel
theorem zm67 : zst 67 = false ∧ zna 67 = 4 ∧ zn 67 = 5 := by decide +kernel
theorem zr67 : zr 67 = some .int := by decide +kernel
theorem zo67 : zo 67 = 7 := by decide +kernel
theorem zm68 : zst 68 = false ∧ zna 68 = 2 ∧ zn 68 = 2 := by decide +kernel
theorem zr68 : zr 68 = some .int := by decide +kernel
theorem zo68 : zo 68 = 7 := by decide +kernel
theorem zm69 : zst 69 = false ∧ zna 69 = 3 ∧ zn 69 = 5 := by decide +kernel
theorem zr69 : zr 69 = some .int := by decide +kernel
theorem zo69 : zo 69 = 7 := by decide +kernel
theorem zm70 : zst 70 = false ∧ zna 70 = 2 ∧ zn 70 = 3 := by decide +kernel
theorem zr70 : zr 70 = some .int := by decide +kernel
theorem zo70 : zo 70 = 7 := by decide +kernel
theorem zm71 : zst 71 = false ∧ zna 71 = 2 ∧ zn 71 = 3 := by decide +kernel
theorem zr71 : zr 71 = some .int := by decide +kernel
theorem zo71 : zo 71 = 7 := by decide +kernel
theorem zm72 : zst 72 = false ∧ zna 72 = 5 ∧ zn 72 = 5 := by decide +kernel
theorem zr72 : zr 72 = some .int := by decide +kernel
theorem zo72 : zo 72 = 7 := by decide +kernel
theorem zm73 : zst 73 = false ∧ zna 73 = 2 ∧ zn 73 = 2 := by decide +kernel
theorem zr73 : zr 73 = some .int := by decide +kernel
theorem zo73 : zo 73 = 7 := by decide +kernel
theorem zm74 : zst 74 = false ∧ zna 74 = 2 ∧ zn 74 = 3 := by decide +kernel
theorem zr74 : zr 74 = some .int := by decide +kernel
theorem zo74 : zo 74 = 7 := by decide +kernel
theorem zm75 : zst 75 = false ∧ zna 75 = 2 ∧ zn 75 = 3 := by decide +kernel
theorem zr75 : zr 75 = some .int := by decide +kernel
theorem zo75 : zo 75 = 7 := by decide +kernel
theorem zm76 : zst 76 = false ∧ zna 76 = 2 ∧ zn 76 = 3 := by decide +kernel
theorem zr76 : zr 76 = some .int := by decide +kernel
theorem zo76 : zo 76 = 7 := by decide +kernel
theorem zm77 : zst 77 = false ∧ zna 77 = 2 ∧ zn 77 = 2 := by decide +kernel
theorem zr77 : zr 77 = some .int := by decide +kernel
theorem zo77 : zo 77 = 7 := by decide +kernel
theorem zm78 : zst 78 = false ∧ zna 78 = 3 ∧ zn 78 = 4 := by decide +kernel
theorem zr78 : zr 78 = some .int := by decide +kernel
theorem zo78 : zo 78 = 7 := by decide +kernel
theorem zm79 : zst 79 = false ∧ zna 79 = 2 ∧ zn 79 = 2 := by decide +kernel
theorem zr79 : zr 79 = some .int := by decide +kernel
theorem zo79 : zo 79 = 7 := by decide +kernel
theorem zm80 : zst 80 = false ∧ zna 80 = 2 ∧ zn 80 = 6 := by decide +kernel
theorem zr80 : zr 80 = some .int := by decide +kernel
theorem zo80 : zo 80 = 7 := by decide +kernel
theorem zm81 : zst 81 = false ∧ zna 81 = 1 ∧ zn 81 = 4 := by decide +kernel
theorem zr81 : zr 81 = some .int := by decide +kernel
theorem zo81 : zo 81 = 7 := by decide +kernel
theorem zm82 : zst 82 = false ∧ zna 82 = 3 ∧ zn 82 = 3 := by decide +kernel
theorem zr82 : zr 82 = some .int := by decide +kernel
theorem zo82 : zo 82 = 7 := by decide +kernel
theorem zm83 : zst 83 = false ∧ zna 83 = 2 ∧ zn 83 = 2 := by decide +kernel
theorem zr83 : zr 83 = some .int := by decide +kernel
theorem zo83 : zo 83 = 7 := by decide +kernel
theorem zm84 : zst 84 = false ∧ zna 84 = 3 ∧ zn 84 = 4 := by decide +kernel
theorem zr84 : zr 84 = some .int := by decide +kernel
theorem zo84 : zo 84 = 7 := by decide +kernel
theorem zm85 : zst 85 = false ∧ zna 85 = 3 ∧ zn 85 = 4 := by decide +kernel
theorem zr85 : zr 85 = some .int := by decide +kernel
theorem zo85 : zo 85 = 7 := by decide +kernel
theorem zm86 : zst 86 = false ∧ zna 86 = 3 ∧ zn 86 = 7 := by decide +kernel
theorem zr86 : zr 86 = some .int := by decide +kernel
theorem zo86 : zo 86 = 7 := by decide +kernel
theorem zm87 : zst 87 = false ∧ zna 87 = 4 ∧ zn 87 = 7 := by decide +kernel
theorem zr87 : zr 87 = some .int := by decide +kernel
theorem zo87 : zo 87 = 7 := by decide +kernel
theorem zm88 : zst 88 = false ∧ zna 88 = 4 ∧ zn 88 = 6 := by decide +kernel
theorem zr88 : zr 88 = some .int := by decide +kernel
theorem zo88 : zo 88 = 7 := by decide +kernel
theorem zm89 : zst 89 = false ∧ zna 89 = 4 ∧ zn 89 = 5 := by decide +kernel
theorem zr89 : zr 89 = some .int := by decide +kernel
theorem zo89 : zo 89 = 7 := by decide +kernel
theorem zm90 : zst 90 = false ∧ zna 90 = 2 ∧ zn 90 = 2 := by decide +kernel
theorem zr90 : zr 90 = some .int := by decide +kernel
theorem zo90 : zo 90 = 7 := by decide +kernel
theorem zm91 : zst 91 = false ∧ zna 91 = 4 ∧ zn 91 = 4 := by decide +kernel
theorem zr91 : zr 91 = some .int := by decide +kernel
theorem zo91 : zo 91 = 7 := by decide +kernel
theorem zm92 : zst 92 = false ∧ zna 92 = 4 ∧ zn 92 = 4 := by decide +kernel
theorem zr92 : zr 92 = some .int := by decide +kernel
theorem zo92 : zo 92 = 7 := by decide +kernel
theorem zm93 : zst 93 = false ∧ zna 93 = 6 ∧ zn 93 = 8 := by decide +kernel
theorem zr93 : zr 93 = some .int := by decide +kernel
theorem zo93 : zo 93 = 7 := by decide +kernel
theorem zm94 : zst 94 = false ∧ zna 94 = 2 ∧ zn 94 = 5 := by decide +kernel
theorem zr94 : zr 94 = some .int := by decide +kernel
theorem zo94 : zo 94 = 7 := by decide +kernel
theorem zm95 : zst 95 = false ∧ zna 95 = 2 ∧ zn 95 = 5 := by decide +kernel
theorem zr95 : zr 95 = some .int := by decide +kernel
theorem zo95 : zo 95 = 7 := by decide +kernel
theorem zm96 : zst 96 = false ∧ zna 96 = 1 ∧ zn 96 = 1 := by decide +kernel
theorem zr96 : zr 96 = some .int := by decide +kernel
theorem zo96 : zo 96 = 7 := by decide +kernel
theorem zm97 : zst 97 = false ∧ zna 97 = 1 ∧ zn 97 = 1 := by decide +kernel
theorem zr97 : zr 97 = some .int := by decide +kernel
theorem zo97 : zo 97 = 7 := by decide +kernel
theorem zm98 : zst 98 = false ∧ zna 98 = 2 ∧ zn 98 = 2 := by decide +kernel
theorem zr98 : zr 98 = some .int := by decide +kernel
theorem zo98 : zo 98 = 7 := by decide +kernel
theorem zm99 : zst 99 = false ∧ zna 99 = 1 ∧ zn 99 = 3 := by decide +kernel
theorem zr99 : zr 99 = some .int := by decide +kernel
theorem zo99 : zo 99 = 7 := by decide +kernel
theorem zm100 : zst 100 = false ∧ zna 100 = 2 ∧ zn 100 = 2 := by decide +kernel
theorem zr100 : zr 100 = some .int := by decide +kernel
theorem zo100 : zo 100 = 7 := by decide +kernel
theorem zm101 : zst 101 = false ∧ zna 101 = 2 ∧ zn 101 = 2 := by decide +kernel
theorem zr101 : zr 101 = some .int := by decide +kernel
theorem zo101 : zo 101 = 7 := by decide +kernel
theorem zm102 : zst 102 = false ∧ zna 102 = 2 ∧ zn 102 = 2 := by decide +kernel
theorem zr102 : zr 102 = some .int := by decide +kernel
theorem zo102 : zo 102 = 7 := by decide +kernel
theorem zm103 : zst 103 = true ∧ zna 103 = 2 ∧ zn 103 = 2 := by decide +kernel
theorem zr103 : zr 103 = some .boolean := by decide +kernel
theorem zo103 : zo 103 = 7 := by decide +kernel
theorem zm104 : zst 104 = false ∧ zna 104 = 2 ∧ zn 104 = 2 := by decide +kernel
theorem zr104 : zr 104 = some .boolean := by decide +kernel
theorem zo104 : zo 104 = 7 := by decide +kernel
theorem zm105 : zst 105 = true ∧ zna 105 = 1 ∧ zn 105 = 1 := by decide +kernel
theorem zr105 : zr 105 = some .boolean := by decide +kernel
theorem zo105 : zo 105 = 7 := by decide +kernel
theorem zm106 : zst 106 = false ∧ zna 106 = 2 ∧ zn 106 = 2 := by decide +kernel
theorem zr106 : zr 106 = (some (.object "ApronStrings$Law")) := by decide +kernel
theorem zo106 : zo 106 = 7 := by decide +kernel
theorem zm107 : zst 107 = false ∧ zna 107 = 4 ∧ zn 107 = 5 := by decide +kernel
theorem zr107 : zr 107 = some .boolean := by decide +kernel
theorem zo107 : zo 107 = 7 := by decide +kernel
theorem zm108 : zst 108 = false ∧ zna 108 = 4 ∧ zn 108 = 5 := by decide +kernel
theorem zr108 : zr 108 = some .int := by decide +kernel
theorem zo108 : zo 108 = 7 := by decide +kernel
theorem zm109 : zst 109 = false ∧ zna 109 = 4 ∧ zn 109 = 5 := by decide +kernel
theorem zr109 : zr 109 = some .boolean := by decide +kernel
theorem zo109 : zo 109 = 7 := by decide +kernel
theorem zm110 : zst 110 = false ∧ zna 110 = 2 ∧ zn 110 = 2 := by decide +kernel
theorem zr110 : zr 110 = some .int := by decide +kernel
theorem zo110 : zo 110 = 8 := by decide +kernel
theorem zm111 : zst 111 = true ∧ zna 111 = 3 ∧ zn 111 = 3 := by decide +kernel
theorem zr111 : zr 111 = some .boolean := by decide +kernel
theorem zo111 : zo 111 = 8 := by decide +kernel
theorem zm112 : zst 112 = true ∧ zna 112 = 3 ∧ zn 112 = 3 := by decide +kernel
theorem zr112 : zr 112 = some .int := by decide +kernel
theorem zo112 : zo 112 = 8 := by decide +kernel
theorem zm113 : zst 113 = true ∧ zna 113 = 2 ∧ zn 113 = 3 := by decide +kernel
theorem zr113 : zr 113 = none := by decide +kernel
theorem zo113 : zo 113 = 8 := by decide +kernel
theorem zm114 : zst 114 = false ∧ zna 114 = 1 ∧ zn 114 = 2 := by decide +kernel
theorem zr114 : zr 114 = none := by decide +kernel
theorem zo114 : zo 114 = 8 := by decide +kernel
theorem zm115 : zst 115 = false ∧ zna 115 = 1 ∧ zn 115 = 2 := by decide +kernel
theorem zr115 : zr 115 = none := by decide +kernel
theorem zo115 : zo 115 = 8 := by decide +kernel
theorem zm116 : zst 116 = false ∧ zna 116 = 2 ∧ zn 116 = 2 := by decide +kernel
theorem zr116 : zr 116 = some .boolean := by decide +kernel
theorem zo116 : zo 116 = 8 := by decide +kernel
theorem zm117 : zst 117 = true ∧ zna 117 = 1 ∧ zn 117 = 1 := by decide +kernel
theorem zr117 : zr 117 = some .boolean := by decide +kernel
theorem zo117 : zo 117 = 8 := by decide +kernel
theorem zm118 : zst 118 = false ∧ zna 118 = 3 ∧ zn 118 = 3 := by decide +kernel
theorem zr118 : zr 118 = some .int := by decide +kernel
theorem zo118 : zo 118 = 8 := by decide +kernel
theorem zm119 : zst 119 = false ∧ zna 119 = 4 ∧ zn 119 = 4 := by decide +kernel
theorem zr119 : zr 119 = none := by decide +kernel
theorem zo119 : zo 119 = 8 := by decide +kernel
theorem zm120 : zst 120 = false ∧ zna 120 = 3 ∧ zn 120 = 4 := by decide +kernel
theorem zr120 : zr 120 = some .int := by decide +kernel
theorem zo120 : zo 120 = 8 := by decide +kernel
theorem zm121 : zst 121 = false ∧ zna 121 = 2 ∧ zn 121 = 2 := by decide +kernel
theorem zr121 : zr 121 = some .boolean := by decide +kernel
theorem zo121 : zo 121 = 8 := by decide +kernel
theorem zm122 : zst 122 = false ∧ zna 122 = 3 ∧ zn 122 = 5 := by decide +kernel
theorem zr122 : zr 122 = some .int := by decide +kernel
theorem zo122 : zo 122 = 8 := by decide +kernel
theorem zm123 : zst 123 = false ∧ zna 123 = 1 ∧ zn 123 = 1 := by decide +kernel
theorem zr123 : zr 123 = some .int := by decide +kernel
theorem zo123 : zo 123 = 8 := by decide +kernel
theorem zm124 : zst 124 = false ∧ zna 124 = 2 ∧ zn 124 = 2 := by decide +kernel
theorem zr124 : zr 124 = some .boolean := by decide +kernel
theorem zo124 : zo 124 = 8 := by decide +kernel
theorem zm125 : zst 125 = false ∧ zna 125 = 3 ∧ zn 125 = 3 := by decide +kernel
theorem zr125 : zr 125 = none := by decide +kernel
theorem zo125 : zo 125 = 8 := by decide +kernel
theorem zm126 : zst 126 = false ∧ zna 126 = 1 ∧ zn 126 = 1 := by decide +kernel
theorem zr126 : zr 126 = some .boolean := by decide +kernel
theorem zo126 : zo 126 = 8 := by decide +kernel
theorem zm127 : zst 127 = false ∧ zna 127 = 1 ∧ zn 127 = 1 := by decide +kernel
theorem zr127 : zr 127 = some .boolean := by decide +kernel
theorem zo127 : zo 127 = 8 := by decide +kernel
theorem zm128 : zst 128 = false ∧ zna 128 = 1 ∧ zn 128 = 2 := by decide +kernel
theorem zr128 : zr 128 = some .boolean := by decide +kernel
theorem zo128 : zo 128 = 8 := by decide +kernel
theorem zm129 : zst 129 = false ∧ zna 129 = 1 ∧ zn 129 = 2 := by decide +kernel
theorem zr129 : zr 129 = some .boolean := by decide +kernel
theorem zo129 : zo 129 = 8 := by decide +kernel
theorem zm130 : zst 130 = false ∧ zna 130 = 1 ∧ zn 130 = 2 := by decide +kernel
theorem zr130 : zr 130 = some .boolean := by decide +kernel
theorem zo130 : zo 130 = 8 := by decide +kernel
theorem zm131 : zst 131 = false ∧ zna 131 = 1 ∧ zn 131 = 1 := by decide +kernel
theorem zr131 : zr 131 = some .boolean := by decide +kernel
theorem zo131 : zo 131 = 8 := by decide +kernel
theorem zm132 : zst 132 = false ∧ zna 132 = 1 ∧ zn 132 = 4 := by decide +kernel
theorem zr132 : zr 132 = some .boolean := by decide +kernel
theorem zo132 : zo 132 = 8 := by decide +kernel
theorem zm133 : zst 133 = false ∧ zna 133 = 2 ∧ zn 133 = 2 := by decide +kernel
theorem zr133 : zr 133 = some .boolean := by decide +kernel
theorem zo133 : zo 133 = 8 := by decide +kernel
theorem zm134 : zst 134 = false ∧ zna 134 = 2 ∧ zn 134 = 5 := by decide +kernel
theorem zr134 : zr 134 = some .int := by decide +kernel
theorem zo134 : zo 134 = 8 := by decide +kernel
theorem zm135 : zst 135 = false ∧ zna 135 = 2 ∧ zn 135 = 3 := by decide +kernel
theorem zr135 : zr 135 = some .int := by decide +kernel
theorem zo135 : zo 135 = 8 := by decide +kernel
theorem zm136 : zst 136 = true ∧ zna 136 = 3 ∧ zn 136 = 3 := by decide +kernel
theorem zr136 : zr 136 = some .int := by decide +kernel
theorem zo136 : zo 136 = 8 := by decide +kernel
theorem zm137 : zst 137 = false ∧ zna 137 = 2 ∧ zn 137 = 7 := by decide +kernel
theorem zr137 : zr 137 = some .int := by decide +kernel
theorem zo137 : zo 137 = 8 := by decide +kernel
theorem zm138 : zst 138 = false ∧ zna 138 = 2 ∧ zn 138 = 4 := by decide +kernel
theorem zr138 : zr 138 = some .boolean := by decide +kernel
theorem zo138 : zo 138 = 8 := by decide +kernel
theorem zm139 : zst 139 = false ∧ zna 139 = 2 ∧ zn 139 = 4 := by decide +kernel
theorem zr139 : zr 139 = some .int := by decide +kernel
theorem zo139 : zo 139 = 8 := by decide +kernel
theorem zm140 : zst 140 = false ∧ zna 140 = 2 ∧ zn 140 = 4 := by decide +kernel
theorem zr140 : zr 140 = some .int := by decide +kernel
theorem zo140 : zo 140 = 8 := by decide +kernel
theorem zm141 : zst 141 = true ∧ zna 141 = 1 ∧ zn 141 = 2 := by decide +kernel
theorem zr141 : zr 141 = some .int := by decide +kernel
theorem zo141 : zo 141 = 8 := by decide +kernel
theorem zm142 : zst 142 = false ∧ zna 142 = 5 ∧ zn 142 = 6 := by decide +kernel
theorem zr142 : zr 142 = some .int := by decide +kernel
theorem zo142 : zo 142 = 8 := by decide +kernel
theorem zm143 : zst 143 = false ∧ zna 143 = 2 ∧ zn 143 = 2 := by decide +kernel
theorem zr143 : zr 143 = some .int := by decide +kernel
theorem zo143 : zo 143 = 8 := by decide +kernel
theorem zm144 : zst 144 = false ∧ zna 144 = 2 ∧ zn 144 = 2 := by decide +kernel
theorem zr144 : zr 144 = some .int := by decide +kernel
theorem zo144 : zo 144 = 8 := by decide +kernel
theorem zm145 : zst 145 = true ∧ zna 145 = 2 ∧ zn 145 = 2 := by decide +kernel
theorem zr145 : zr 145 = some .int := by decide +kernel
theorem zo145 : zo 145 = 8 := by decide +kernel
theorem zm146 : zst 146 = false ∧ zna 146 = 2 ∧ zn 146 = 2 := by decide +kernel
theorem zr146 : zr 146 = some .int := by decide +kernel
theorem zo146 : zo 146 = 8 := by decide +kernel
theorem zm147 : zst 147 = false ∧ zna 147 = 1 ∧ zn 147 = 2 := by decide +kernel
theorem zr147 : zr 147 = some .int := by decide +kernel
theorem zo147 : zo 147 = 8 := by decide +kernel
theorem zm148 : zst 148 = false ∧ zna 148 = 2 ∧ zn 148 = 2 := by decide +kernel
theorem zr148 : zr 148 = none := by decide +kernel
theorem zo148 : zo 148 = 8 := by decide +kernel
theorem zm149 : zst 149 = false ∧ zna 149 = 2 ∧ zn 149 = 2 := by decide +kernel
theorem zr149 : zr 149 = none := by decide +kernel
theorem zo149 : zo 149 = 8 := by decide +kernel
theorem zm150 : zst 150 = false ∧ zna 150 = 3 ∧ zn 150 = 3 := by decide +kernel
theorem zr150 : zr 150 = none := by decide +kernel
theorem zo150 : zo 150 = 8 := by decide +kernel
theorem zm151 : zst 151 = false ∧ zna 151 = 3 ∧ zn 151 = 3 := by decide +kernel
theorem zr151 : zr 151 = none := by decide +kernel
theorem zo151 : zo 151 = 8 := by decide +kernel
theorem zm152 : zst 152 = false ∧ zna 152 = 2 ∧ zn 152 = 7 := by decide +kernel
theorem zr152 : zr 152 = some .boolean := by decide +kernel
theorem zo152 : zo 152 = 8 := by decide +kernel
theorem zm153 : zst 153 = false ∧ zna 153 = 3 ∧ zn 153 = 6 := by decide +kernel
theorem zr153 : zr 153 = some .boolean := by decide +kernel
theorem zo153 : zo 153 = 8 := by decide +kernel
theorem zm154 : zst 154 = false ∧ zna 154 = 1 ∧ zn 154 = 6 := by decide +kernel
theorem zr154 : zr 154 = none := by decide +kernel
theorem zo154 : zo 154 = 8 := by decide +kernel
theorem zm155 : zst 155 = false ∧ zna 155 = 2 ∧ zn 155 = 3 := by decide +kernel
theorem zr155 : zr 155 = none := by decide +kernel
theorem zo155 : zo 155 = 8 := by decide +kernel
theorem zm156 : zst 156 = false ∧ zna 156 = 1 ∧ zn 156 = 3 := by decide +kernel
theorem zr156 : zr 156 = some .int := by decide +kernel
theorem zo156 : zo 156 = 8 := by decide +kernel
theorem zm157 : zst 157 = false ∧ zna 157 = 2 ∧ zn 157 = 4 := by decide +kernel
theorem zr157 : zr 157 = some .int := by decide +kernel
theorem zo157 : zo 157 = 8 := by decide +kernel
theorem zm158 : zst 158 = true ∧ zna 158 = 1 ∧ zn 158 = 1 := by decide +kernel
theorem zr158 : zr 158 = some .boolean := by decide +kernel
theorem zo158 : zo 158 = 8 := by decide +kernel
theorem zm159 : zst 159 = false ∧ zna 159 = 5 ∧ zn 159 = 6 := by decide +kernel
theorem zr159 : zr 159 = some .int := by decide +kernel
theorem zo159 : zo 159 = 8 := by decide +kernel
theorem zm160 : zst 160 = false ∧ zna 160 = 3 ∧ zn 160 = 3 := by decide +kernel
theorem zr160 : zr 160 = some .int := by decide +kernel
theorem zo160 : zo 160 = 8 := by decide +kernel
theorem zm161 : zst 161 = false ∧ zna 161 = 3 ∧ zn 161 = 4 := by decide +kernel
theorem zr161 : zr 161 = some .int := by decide +kernel
theorem zo161 : zo 161 = 8 := by decide +kernel
theorem zm162 : zst 162 = false ∧ zna 162 = 3 ∧ zn 162 = 5 := by decide +kernel
theorem zr162 : zr 162 = some .int := by decide +kernel
theorem zo162 : zo 162 = 8 := by decide +kernel
theorem zm163 : zst 163 = false ∧ zna 163 = 3 ∧ zn 163 = 3 := by decide +kernel
theorem zr163 : zr 163 = some .int := by decide +kernel
theorem zo163 : zo 163 = 8 := by decide +kernel
theorem zm164 : zst 164 = false ∧ zna 164 = 2 ∧ zn 164 = 3 := by decide +kernel
theorem zr164 : zr 164 = some .int := by decide +kernel
theorem zo164 : zo 164 = 8 := by decide +kernel
theorem zm165 : zst 165 = true ∧ zna 165 = 1 ∧ zn 165 = 1 := by decide +kernel
theorem zr165 : zr 165 = some .boolean := by decide +kernel
theorem zo165 : zo 165 = 8 := by decide +kernel
theorem zm166 : zst 166 = false ∧ zna 166 = 4 ∧ zn 166 = 4 := by decide +kernel
theorem zr166 : zr 166 = some .int := by decide +kernel
theorem zo166 : zo 166 = 8 := by decide +kernel
theorem zm167 : zst 167 = false ∧ zna 167 = 2 ∧ zn 167 = 2 := by decide +kernel
theorem zr167 : zr 167 = some .int := by decide +kernel
theorem zo167 : zo 167 = 8 := by decide +kernel
theorem zm168 : zst 168 = false ∧ zna 168 = 5 ∧ zn 168 = 5 := by decide +kernel
theorem zr168 : zr 168 = some .int := by decide +kernel
theorem zo168 : zo 168 = 8 := by decide +kernel
theorem zm169 : zst 169 = false ∧ zna 169 = 2 ∧ zn 169 = 2 := by decide +kernel
theorem zr169 : zr 169 = some .int := by decide +kernel
theorem zo169 : zo 169 = 8 := by decide +kernel
theorem zm170 : zst 170 = false ∧ zna 170 = 1 ∧ zn 170 = 1 := by decide +kernel
theorem zr170 : zr 170 = some .int := by decide +kernel
theorem zo170 : zo 170 = 8 := by decide +kernel
theorem zm171 : zst 171 = false ∧ zna 171 = 2 ∧ zn 171 = 4 := by decide +kernel
theorem zr171 : zr 171 = some .int := by decide +kernel
theorem zo171 : zo 171 = 8 := by decide +kernel
theorem zm172 : zst 172 = false ∧ zna 172 = 2 ∧ zn 172 = 2 := by decide +kernel
theorem zr172 : zr 172 = some .int := by decide +kernel
theorem zo172 : zo 172 = 8 := by decide +kernel
theorem zm173 : zst 173 = false ∧ zna 173 = 2 ∧ zn 173 = 2 := by decide +kernel
theorem zr173 : zr 173 = some .int := by decide +kernel
theorem zo173 : zo 173 = 8 := by decide +kernel
theorem zm174 : zst 174 = false ∧ zna 174 = 2 ∧ zn 174 = 4 := by decide +kernel
theorem zr174 : zr 174 = some .int := by decide +kernel
theorem zo174 : zo 174 = 8 := by decide +kernel
theorem zm175 : zst 175 = false ∧ zna 175 = 2 ∧ zn 175 = 2 := by decide +kernel
theorem zr175 : zr 175 = some .int := by decide +kernel
theorem zo175 : zo 175 = 8 := by decide +kernel
theorem zm176 : zst 176 = false ∧ zna 176 = 3 ∧ zn 176 = 5 := by decide +kernel
theorem zr176 : zr 176 = some .int := by decide +kernel
theorem zo176 : zo 176 = 8 := by decide +kernel
theorem zm177 : zst 177 = false ∧ zna 177 = 3 ∧ zn 177 = 4 := by decide +kernel
theorem zr177 : zr 177 = some .int := by decide +kernel
theorem zo177 : zo 177 = 8 := by decide +kernel
theorem zm178 : zst 178 = false ∧ zna 178 = 2 ∧ zn 178 = 4 := by decide +kernel
theorem zr178 : zr 178 = some .int := by decide +kernel
theorem zo178 : zo 178 = 8 := by decide +kernel
theorem zm179 : zst 179 = false ∧ zna 179 = 2 ∧ zn 179 = 2 := by decide +kernel
theorem zr179 : zr 179 = some .int := by decide +kernel
theorem zo179 : zo 179 = 8 := by decide +kernel
theorem zm180 : zst 180 = false ∧ zna 180 = 2 ∧ zn 180 = 4 := by decide +kernel
theorem zr180 : zr 180 = some .int := by decide +kernel
theorem zo180 : zo 180 = 8 := by decide +kernel
theorem zm181 : zst 181 = true ∧ zna 181 = 1 ∧ zn 181 = 3 := by decide +kernel
theorem zr181 : zr 181 = some .int := by decide +kernel
theorem zo181 : zo 181 = 8 := by decide +kernel
theorem zm182 : zst 182 = false ∧ zna 182 = 2 ∧ zn 182 = 2 := by decide +kernel
theorem zr182 : zr 182 = some .int := by decide +kernel
theorem zo182 : zo 182 = 8 := by decide +kernel
theorem zm183 : zst 183 = false ∧ zna 183 = 2 ∧ zn 183 = 6 := by decide +kernel
theorem zr183 : zr 183 = some .int := by decide +kernel
theorem zo183 : zo 183 = 8 := by decide +kernel
theorem zm184 : zst 184 = false ∧ zna 184 = 3 ∧ zn 184 = 3 := by decide +kernel
theorem zr184 : zr 184 = some .boolean := by decide +kernel
theorem zo184 : zo 184 = 8 := by decide +kernel
theorem zm185 : zst 185 = false ∧ zna 185 = 1 ∧ zn 185 = 4 := by decide +kernel
theorem zr185 : zr 185 = some .int := by decide +kernel
theorem zo185 : zo 185 = 8 := by decide +kernel
theorem zm186 : zst 186 = false ∧ zna 186 = 3 ∧ zn 186 = 4 := by decide +kernel
theorem zr186 : zr 186 = some .int := by decide +kernel
theorem zo186 : zo 186 = 8 := by decide +kernel
theorem zm187 : zst 187 = false ∧ zna 187 = 2 ∧ zn 187 = 3 := by decide +kernel
theorem zr187 : zr 187 = some .int := by decide +kernel
theorem zo187 : zo 187 = 8 := by decide +kernel
theorem zm188 : zst 188 = false ∧ zna 188 = 3 ∧ zn 188 = 4 := by decide +kernel
theorem zr188 : zr 188 = some .int := by decide +kernel
theorem zo188 : zo 188 = 8 := by decide +kernel
theorem zm189 : zst 189 = false ∧ zna 189 = 4 ∧ zn 189 = 5 := by decide +kernel
theorem zr189 : zr 189 = some .boolean := by decide +kernel
theorem zo189 : zo 189 = 8 := by decide +kernel
theorem zm190 : zst 190 = false ∧ zna 190 = 3 ∧ zn 190 = 4 := by decide +kernel
theorem zr190 : zr 190 = some .int := by decide +kernel
theorem zo190 : zo 190 = 8 := by decide +kernel
theorem zm191 : zst 191 = false ∧ zna 191 = 4 ∧ zn 191 = 6 := by decide +kernel
theorem zr191 : zr 191 = some .boolean := by decide +kernel
theorem zo191 : zo 191 = 8 := by decide +kernel
theorem zm192 : zst 192 = false ∧ zna 192 = 3 ∧ zn 192 = 7 := by decide +kernel
theorem zr192 : zr 192 = some .int := by decide +kernel
theorem zo192 : zo 192 = 8 := by decide +kernel
theorem zm193 : zst 193 = true ∧ zna 193 = 2 ∧ zn 193 = 5 := by decide +kernel
theorem zr193 : zr 193 = some .int := by decide +kernel
theorem zo193 : zo 193 = 8 := by decide +kernel
theorem zm194 : zst 194 = false ∧ zna 194 = 4 ∧ zn 194 = 6 := by decide +kernel
theorem zr194 : zr 194 = some .int := by decide +kernel
theorem zo194 : zo 194 = 8 := by decide +kernel
theorem zm195 : zst 195 = false ∧ zna 195 = 4 ∧ zn 195 = 8 := by decide +kernel
theorem zr195 : zr 195 = some .int := by decide +kernel
theorem zo195 : zo 195 = 8 := by decide +kernel
theorem zm196 : zst 196 = false ∧ zna 196 = 2 ∧ zn 196 = 2 := by decide +kernel
theorem zr196 : zr 196 = none := by decide +kernel
theorem zo196 : zo 196 = 8 := by decide +kernel
theorem zm197 : zst 197 = true ∧ zna 197 = 1 ∧ zn 197 = 1 := by decide +kernel
theorem zr197 : zr 197 = some .int := by decide +kernel
theorem zo197 : zo 197 = 8 := by decide +kernel
theorem zm198 : zst 198 = false ∧ zna 198 = 1 ∧ zn 198 = 1 := by decide +kernel
theorem zr198 : zr 198 = some .int := by decide +kernel
theorem zo198 : zo 198 = 8 := by decide +kernel
theorem zm199 : zst 199 = false ∧ zna 199 = 1 ∧ zn 199 = 1 := by decide +kernel
theorem zr199 : zr 199 = some .int := by decide +kernel
theorem zo199 : zo 199 = 8 := by decide +kernel
theorem zm200 : zst 200 = false ∧ zna 200 = 3 ∧ zn 200 = 3 := by decide +kernel
theorem zr200 : zr 200 = some .int := by decide +kernel
theorem zo200 : zo 200 = 8 := by decide +kernel
theorem zm201 : zst 201 = false ∧ zna 201 = 3 ∧ zn 201 = 3 := by decide +kernel
theorem zr201 : zr 201 = some .int := by decide +kernel
theorem zo201 : zo 201 = 8 := by decide +kernel
theorem zm202 : zst 202 = false ∧ zna 202 = 3 ∧ zn 202 = 3 := by decide +kernel
theorem zr202 : zr 202 = some .int := by decide +kernel
theorem zo202 : zo 202 = 8 := by decide +kernel
theorem zm203 : zst 203 = false ∧ zna 203 = 3 ∧ zn 203 = 5 := by decide +kernel
theorem zr203 : zr 203 = some .int := by decide +kernel
theorem zo203 : zo 203 = 8 := by decide +kernel
theorem zm204 : zst 204 = false ∧ zna 204 = 4 ∧ zn 204 = 6 := by decide +kernel
theorem zr204 : zr 204 = some .int := by decide +kernel
theorem zo204 : zo 204 = 8 := by decide +kernel
theorem zm205 : zst 205 = false ∧ zna 205 = 2 ∧ zn 205 = 2 := by decide +kernel
theorem zr205 : zr 205 = some .int := by decide +kernel
theorem zo205 : zo 205 = 8 := by decide +kernel
theorem zm206 : zst 206 = true ∧ zna 206 = 1 ∧ zn 206 = 1 := by decide +kernel
theorem zr206 : zr 206 = some .boolean := by decide +kernel
theorem zo206 : zo 206 = 8 := by decide +kernel
theorem zm207 : zst 207 = false ∧ zna 207 = 4 ∧ zn 207 = 5 := by decide +kernel
theorem zr207 : zr 207 = some .int := by decide +kernel
theorem zo207 : zo 207 = 8 := by decide +kernel
theorem zm208 : zst 208 = false ∧ zna 208 = 4 ∧ zn 208 = 5 := by decide +kernel
theorem zr208 : zr 208 = some .int := by decide +kernel
theorem zo208 : zo 208 = 8 := by decide +kernel
theorem zm209 : zst 209 = false ∧ zna 209 = 6 ∧ zn 209 = 7 := by decide +kernel
theorem zr209 : zr 209 = some .int := by decide +kernel
theorem zo209 : zo 209 = 8 := by decide +kernel
theorem zm210 : zst 210 = false ∧ zna 210 = 2 ∧ zn 210 = 2 := by decide +kernel
theorem zr210 : zr 210 = some .int := by decide +kernel
theorem zo210 : zo 210 = 8 := by decide +kernel
theorem zm211 : zst 211 = false ∧ zna 211 = 2 ∧ zn 211 = 4 := by decide +kernel
theorem zr211 : zr 211 = some .int := by decide +kernel
theorem zo211 : zo 211 = 8 := by decide +kernel
theorem zm212 : zst 212 = false ∧ zna 212 = 2 ∧ zn 212 = 4 := by decide +kernel
theorem zr212 : zr 212 = some .int := by decide +kernel
theorem zo212 : zo 212 = 8 := by decide +kernel
theorem zm213 : zst 213 = false ∧ zna 213 = 1 ∧ zn 213 = 1 := by decide +kernel
theorem zr213 : zr 213 = some .int := by decide +kernel
theorem zo213 : zo 213 = 8 := by decide +kernel
theorem zm214 : zst 214 = false ∧ zna 214 = 1 ∧ zn 214 = 1 := by decide +kernel
theorem zr214 : zr 214 = some .int := by decide +kernel
theorem zo214 : zo 214 = 8 := by decide +kernel
theorem zm215 : zst 215 = false ∧ zna 215 = 2 ∧ zn 215 = 2 := by decide +kernel
theorem zr215 : zr 215 = some .int := by decide +kernel
theorem zo215 : zo 215 = 8 := by decide +kernel
theorem zm216 : zst 216 = false ∧ zna 216 = 1 ∧ zn 216 = 3 := by decide +kernel
theorem zr216 : zr 216 = some .int := by decide +kernel
theorem zo216 : zo 216 = 8 := by decide +kernel
theorem zm217 : zst 217 = false ∧ zna 217 = 2 ∧ zn 217 = 2 := by decide +kernel
theorem zr217 : zr 217 = some .int := by decide +kernel
theorem zo217 : zo 217 = 8 := by decide +kernel
theorem zm218 : zst 218 = false ∧ zna 218 = 2 ∧ zn 218 = 2 := by decide +kernel
theorem zr218 : zr 218 = some .int := by decide +kernel
theorem zo218 : zo 218 = 8 := by decide +kernel
theorem zm219 : zst 219 = true ∧ zna 219 = 1 ∧ zn 219 = 1 := by decide +kernel
theorem zr219 : zr 219 = some .int := by decide +kernel
theorem zo219 : zo 219 = 10 := by decide +kernel
theorem zm220 : zst 220 = true ∧ zna 220 = 2 ∧ zn 220 = 3 := by decide +kernel
theorem zr220 : zr 220 = some .int := by decide +kernel
theorem zo220 : zo 220 = 11 := by decide +kernel
theorem zm221 : zst 221 = true ∧ zna 221 = 1 ∧ zn 221 = 1 := by decide +kernel
theorem zr221 : zr 221 = some .int := by decide +kernel
theorem zo221 : zo 221 = 11 := by decide +kernel
theorem zm222 : zst 222 = true ∧ zna 222 = 2 ∧ zn 222 = 2 := by decide +kernel
theorem zr222 : zr 222 = some .int := by decide +kernel
theorem zo222 : zo 222 = 11 := by decide +kernel
theorem zm223 : zst 223 = true ∧ zna 223 = 2 ∧ zn 223 = 2 := by decide +kernel
theorem zr223 : zr 223 = some .int := by decide +kernel
theorem zo223 : zo 223 = 11 := by decide +kernel
theorem zm224 : zst 224 = true ∧ zna 224 = 1 ∧ zn 224 = 4 := by decide +kernel
theorem zr224 : zr 224 = some .boolean := by decide +kernel
theorem zo224 : zo 224 = 9 := by decide +kernel
theorem zic_m1 (o pc : Nat) (ls : zO) (st : List zA) (σ : zS) : zstep o (.iconst (-1)) 1 pc ls st σ = some (pc + 1, ls, zI (-1) :: st, σ) := rfl
theorem zic_0 (o pc : Nat) (ls : zO) (st : List zA) (σ : zS) : zstep o (.iconst (0)) 1 pc ls st σ = some (pc + 1, ls, zI (0) :: st, σ) := rfl
theorem zic_1 (o pc : Nat) (ls : zO) (st : List zA) (σ : zS) : zstep o (.iconst (1)) 1 pc ls st σ = some (pc + 1, ls, zI (1) :: st, σ) := rfl
theorem zic_2 (o pc : Nat) (ls : zO) (st : List zA) (σ : zS) : zstep o (.iconst (2)) 1 pc ls st σ = some (pc + 1, ls, zI (2) :: st, σ) := rfl
theorem zic_3 (o pc : Nat) (ls : zO) (st : List zA) (σ : zS) : zstep o (.iconst (3)) 1 pc ls st σ = some (pc + 1, ls, zI (3) :: st, σ) := rfl
theorem zic_4 (o pc : Nat) (ls : zO) (st : List zA) (σ : zS) : zstep o (.iconst (4)) 1 pc ls st σ = some (pc + 1, ls, zI (4) :: st, σ) := rfl
theorem zic_5 (o pc : Nat) (ls : zO) (st : List zA) (σ : zS) : zstep o (.iconst (5)) 1 pc ls st σ = some (pc + 1, ls, zI (5) :: st, σ) := rfl
theorem zib_m10 (o pc : Nat) (ls : zO) (st : List zA) (σ : zS) : zstep o (.bipush (-10)) 2 pc ls st σ = some (pc + 2, ls, zI (-10) :: st, σ) := rfl
theorem zib_6 (o pc : Nat) (ls : zO) (st : List zA) (σ : zS) : zstep o (.bipush (6)) 2 pc ls st σ = some (pc + 2, ls, zI (6) :: st, σ) := rfl
theorem zib_7 (o pc : Nat) (ls : zO) (st : List zA) (σ : zS) : zstep o (.bipush (7)) 2 pc ls st σ = some (pc + 2, ls, zI (7) :: st, σ) := rfl
theorem zib_8 (o pc : Nat) (ls : zO) (st : List zA) (σ : zS) : zstep o (.bipush (8)) 2 pc ls st σ = some (pc + 2, ls, zI (8) :: st, σ) := rfl
theorem zib_9 (o pc : Nat) (ls : zO) (st : List zA) (σ : zS) : zstep o (.bipush (9)) 2 pc ls st σ = some (pc + 2, ls, zI (9) :: st, σ) := rfl
theorem zib_10 (o pc : Nat) (ls : zO) (st : List zA) (σ : zS) : zstep o (.bipush (10)) 2 pc ls st σ = some (pc + 2, ls, zI (10) :: st, σ) := rfl
theorem zib_11 (o pc : Nat) (ls : zO) (st : List zA) (σ : zS) : zstep o (.bipush (11)) 2 pc ls st σ = some (pc + 2, ls, zI (11) :: st, σ) := rfl
theorem zib_12 (o pc : Nat) (ls : zO) (st : List zA) (σ : zS) : zstep o (.bipush (12)) 2 pc ls st σ = some (pc + 2, ls, zI (12) :: st, σ) := rfl
theorem zib_13 (o pc : Nat) (ls : zO) (st : List zA) (σ : zS) : zstep o (.bipush (13)) 2 pc ls st σ = some (pc + 2, ls, zI (13) :: st, σ) := rfl
theorem zib_16 (o pc : Nat) (ls : zO) (st : List zA) (σ : zS) : zstep o (.bipush (16)) 2 pc ls st σ = some (pc + 2, ls, zI (16) :: st, σ) := rfl
theorem zib_20 (o pc : Nat) (ls : zO) (st : List zA) (σ : zS) : zstep o (.bipush (20)) 2 pc ls st σ = some (pc + 2, ls, zI (20) :: st, σ) := rfl
theorem zib_21 (o pc : Nat) (ls : zO) (st : List zA) (σ : zS) : zstep o (.bipush (21)) 2 pc ls st σ = some (pc + 2, ls, zI (21) :: st, σ) := rfl
theorem zib_24 (o pc : Nat) (ls : zO) (st : List zA) (σ : zS) : zstep o (.bipush (24)) 2 pc ls st σ = some (pc + 2, ls, zI (24) :: st, σ) := rfl
theorem zib_30 (o pc : Nat) (ls : zO) (st : List zA) (σ : zS) : zstep o (.bipush (30)) 2 pc ls st σ = some (pc + 2, ls, zI (30) :: st, σ) := rfl
theorem zib_31 (o pc : Nat) (ls : zO) (st : List zA) (σ : zS) : zstep o (.bipush (31)) 2 pc ls st σ = some (pc + 2, ls, zI (31) :: st, σ) := rfl
theorem zib_32 (o pc : Nat) (ls : zO) (st : List zA) (σ : zS) : zstep o (.bipush (32)) 2 pc ls st σ = some (pc + 2, ls, zI (32) :: st, σ) := rfl
theorem zib_33 (o pc : Nat) (ls : zO) (st : List zA) (σ : zS) : zstep o (.bipush (33)) 2 pc ls st σ = some (pc + 2, ls, zI (33) :: st, σ) := rfl
theorem zib_37 (o pc : Nat) (ls : zO) (st : List zA) (σ : zS) : zstep o (.bipush (37)) 2 pc ls st σ = some (pc + 2, ls, zI (37) :: st, σ) := rfl
theorem zib_38 (o pc : Nat) (ls : zO) (st : List zA) (σ : zS) : zstep o (.bipush (38)) 2 pc ls st σ = some (pc + 2, ls, zI (38) :: st, σ) := rfl
theorem zib_40 (o pc : Nat) (ls : zO) (st : List zA) (σ : zS) : zstep o (.bipush (40)) 2 pc ls st σ = some (pc + 2, ls, zI (40) :: st, σ) := rfl
theorem zib_41 (o pc : Nat) (ls : zO) (st : List zA) (σ : zS) : zstep o (.bipush (41)) 2 pc ls st σ = some (pc + 2, ls, zI (41) :: st, σ) := rfl
theorem zib_42 (o pc : Nat) (ls : zO) (st : List zA) (σ : zS) : zstep o (.bipush (42)) 2 pc ls st σ = some (pc + 2, ls, zI (42) :: st, σ) := rfl
theorem zib_43 (o pc : Nat) (ls : zO) (st : List zA) (σ : zS) : zstep o (.bipush (43)) 2 pc ls st σ = some (pc + 2, ls, zI (43) :: st, σ) := rfl
theorem zib_45 (o pc : Nat) (ls : zO) (st : List zA) (σ : zS) : zstep o (.bipush (45)) 2 pc ls st σ = some (pc + 2, ls, zI (45) :: st, σ) := rfl
theorem zib_47 (o pc : Nat) (ls : zO) (st : List zA) (σ : zS) : zstep o (.bipush (47)) 2 pc ls st σ = some (pc + 2, ls, zI (47) :: st, σ) := rfl
theorem zib_48 (o pc : Nat) (ls : zO) (st : List zA) (σ : zS) : zstep o (.bipush (48)) 2 pc ls st σ = some (pc + 2, ls, zI (48) :: st, σ) := rfl
theorem zib_50 (o pc : Nat) (ls : zO) (st : List zA) (σ : zS) : zstep o (.bipush (50)) 2 pc ls st σ = some (pc + 2, ls, zI (50) :: st, σ) := rfl
theorem zib_51 (o pc : Nat) (ls : zO) (st : List zA) (σ : zS) : zstep o (.bipush (51)) 2 pc ls st σ = some (pc + 2, ls, zI (51) :: st, σ) := rfl
theorem zib_57 (o pc : Nat) (ls : zO) (st : List zA) (σ : zS) : zstep o (.bipush (57)) 2 pc ls st σ = some (pc + 2, ls, zI (57) :: st, σ) := rfl
theorem zib_60 (o pc : Nat) (ls : zO) (st : List zA) (σ : zS) : zstep o (.bipush (60)) 2 pc ls st σ = some (pc + 2, ls, zI (60) :: st, σ) := rfl
theorem zib_61 (o pc : Nat) (ls : zO) (st : List zA) (σ : zS) : zstep o (.bipush (61)) 2 pc ls st σ = some (pc + 2, ls, zI (61) :: st, σ) := rfl
theorem zib_62 (o pc : Nat) (ls : zO) (st : List zA) (σ : zS) : zstep o (.bipush (62)) 2 pc ls st σ = some (pc + 2, ls, zI (62) :: st, σ) := rfl
theorem zib_63 (o pc : Nat) (ls : zO) (st : List zA) (σ : zS) : zstep o (.bipush (63)) 2 pc ls st σ = some (pc + 2, ls, zI (63) :: st, σ) := rfl
theorem zib_64 (o pc : Nat) (ls : zO) (st : List zA) (σ : zS) : zstep o (.bipush (64)) 2 pc ls st σ = some (pc + 2, ls, zI (64) :: st, σ) := rfl
theorem zib_69 (o pc : Nat) (ls : zO) (st : List zA) (σ : zS) : zstep o (.bipush (69)) 2 pc ls st σ = some (pc + 2, ls, zI (69) :: st, σ) := rfl
theorem zib_70 (o pc : Nat) (ls : zO) (st : List zA) (σ : zS) : zstep o (.bipush (70)) 2 pc ls st σ = some (pc + 2, ls, zI (70) :: st, σ) := rfl
theorem zib_71 (o pc : Nat) (ls : zO) (st : List zA) (σ : zS) : zstep o (.bipush (71)) 2 pc ls st σ = some (pc + 2, ls, zI (71) :: st, σ) := rfl
theorem zib_96 (o pc : Nat) (ls : zO) (st : List zA) (σ : zS) : zstep o (.bipush (96)) 2 pc ls st σ = some (pc + 2, ls, zI (96) :: st, σ) := rfl
theorem zib_99 (o pc : Nat) (ls : zO) (st : List zA) (σ : zS) : zstep o (.bipush (99)) 2 pc ls st σ = some (pc + 2, ls, zI (99) :: st, σ) := rfl
theorem zib_100 (o pc : Nat) (ls : zO) (st : List zA) (σ : zS) : zstep o (.bipush (100)) 2 pc ls st σ = some (pc + 2, ls, zI (100) :: st, σ) := rfl
theorem zib_111 (o pc : Nat) (ls : zO) (st : List zA) (σ : zS) : zstep o (.bipush (111)) 2 pc ls st σ = some (pc + 2, ls, zI (111) :: st, σ) := rfl
theorem zib_115 (o pc : Nat) (ls : zO) (st : List zA) (σ : zS) : zstep o (.bipush (115)) 2 pc ls st σ = some (pc + 2, ls, zI (115) :: st, σ) := rfl
theorem zib_121 (o pc : Nat) (ls : zO) (st : List zA) (σ : zS) : zstep o (.bipush (121)) 2 pc ls st σ = some (pc + 2, ls, zI (121) :: st, σ) := rfl
theorem zib_124 (o pc : Nat) (ls : zO) (st : List zA) (σ : zS) : zstep o (.bipush (124)) 2 pc ls st σ = some (pc + 2, ls, zI (124) :: st, σ) := rfl
theorem zib_125 (o pc : Nat) (ls : zO) (st : List zA) (σ : zS) : zstep o (.bipush (125)) 2 pc ls st σ = some (pc + 2, ls, zI (125) :: st, σ) := rfl
theorem zis_128 (o pc : Nat) (ls : zO) (st : List zA) (σ : zS) : zstep o (.sipush (128)) 3 pc ls st σ = some (pc + 3, ls, zI (128) :: st, σ) := rfl
theorem zis_255 (o pc : Nat) (ls : zO) (st : List zA) (σ : zS) : zstep o (.sipush (255)) 3 pc ls st σ = some (pc + 3, ls, zI (255) :: st, σ) := rfl
theorem zis_310 (o pc : Nat) (ls : zO) (st : List zA) (σ : zS) : zstep o (.sipush (310)) 3 pc ls st σ = some (pc + 3, ls, zI (310) :: st, σ) := rfl
theorem zis_370 (o pc : Nat) (ls : zO) (st : List zA) (σ : zS) : zstep o (.sipush (370)) 3 pc ls st σ = some (pc + 3, ls, zI (370) :: st, σ) := rfl
theorem zis_394 (o pc : Nat) (ls : zO) (st : List zA) (σ : zS) : zstep o (.sipush (394)) 3 pc ls st σ = some (pc + 3, ls, zI (394) :: st, σ) := rfl
theorem zis_9999 (o pc : Nat) (ls : zO) (st : List zA) (σ : zS) : zstep o (.sipush (9999)) 3 pc ls st σ = some (pc + 3, ls, zI (9999) :: st, σ) := rfl
theorem zis_10000 (o pc : Nat) (ls : zO) (st : List zA) (σ : zS) : zstep o (.sipush (10000)) 3 pc ls st σ = some (pc + 3, ls, zI (10000) :: st, σ) := rfl
theorem zis_10001 (o pc : Nat) (ls : zO) (st : List zA) (σ : zS) : zstep o (.sipush (10001)) 3 pc ls st σ = some (pc + 3, ls, zI (10001) :: st, σ) := rfl
theorem zis_12345 (o pc : Nat) (ls : zO) (st : List zA) (σ : zS) : zstep o (.sipush (12345)) 3 pc ls st σ = some (pc + 3, ls, zI (12345) :: st, σ) := rfl
theorem zis_20000 (o pc : Nat) (ls : zO) (st : List zA) (σ : zS) : zstep o (.sipush (20000)) 3 pc ls st σ = some (pc + 3, ls, zI (20000) :: st, σ) := rfl
theorem zis_20033 (o pc : Nat) (ls : zO) (st : List zA) (σ : zS) : zstep o (.sipush (20033)) 3 pc ls st σ = some (pc + 3, ls, zI (20033) :: st, σ) := rfl
theorem zii_m1 : Int32.ofInt (-1) = -1 := rfl
theorem zii_1 : Int32.ofInt (1) = 1 := rfl
theorem zii_6 : Int32.ofInt (6) = 6 := rfl
