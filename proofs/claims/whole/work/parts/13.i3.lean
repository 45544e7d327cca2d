theorem i200_111 : zfetch 200 111 = some (8, .ireturn, 1) := by decide +kernel
theorem i201_0 : zfetch 201 0 = some (8, .iload_n 1, 1) := by decide +kernel
theorem i201_1 : zfetch 201 1 = some (8, .tableswitch 119 0 6 #[43, 119, 61, 119, 119, 79, 97], 43) := by decide +kernel
theorem i201_44 : zfetch 201 44 = some (8, .aload_n 0, 1) := by decide +kernel
theorem i201_45 : zfetch 201 45 = some (8, .bipush 11, 2) := by decide +kernel
theorem i201_47 : zfetch 201 47 = some (8, .invokevirtual 261, 3) := by decide +kernel
theorem i201_50 : zfetch 201 50 = some (8, .aload_n 0, 1) := by decide +kernel
theorem i201_51 : zfetch 201 51 = some (8, .aload_n 0, 1) := by decide +kernel
theorem i201_52 : zfetch 201 52 = some (8, .invokevirtual 267, 3) := by decide +kernel
theorem i201_55 : zfetch 201 55 = some (8, .iload_n 2, 1) := by decide +kernel
theorem i201_56 : zfetch 201 56 = some (8, .invokevirtual 264, 3) := by decide +kernel
theorem i201_59 : zfetch 201 59 = some (8, .iconst 2, 1) := by decide +kernel
theorem i201_60 : zfetch 201 60 = some (8, .imul, 1) := by decide +kernel
theorem i201_61 : zfetch 201 61 = some (8, .ireturn, 1) := by decide +kernel
theorem i201_62 : zfetch 201 62 = some (8, .aload_n 0, 1) := by decide +kernel
theorem i201_63 : zfetch 201 63 = some (8, .bipush 30, 2) := by decide +kernel
theorem i201_65 : zfetch 201 65 = some (8, .invokevirtual 261, 3) := by decide +kernel
theorem i201_68 : zfetch 201 68 = some (8, .iconst 0, 1) := by decide +kernel
theorem i201_69 : zfetch 201 69 = some (8, .aload_n 0, 1) := by decide +kernel
theorem i201_70 : zfetch 201 70 = some (8, .iconst 2, 1) := by decide +kernel
theorem i201_71 : zfetch 201 71 = some (8, .invokestatic 197, 3) := by decide +kernel
theorem i201_74 : zfetch 201 74 = some (8, .iload_n 2, 1) := by decide +kernel
theorem i201_75 : zfetch 201 75 = some (8, .invokevirtual 270, 3) := by decide +kernel
theorem i201_78 : zfetch 201 78 = some (8, .isub, 1) := by decide +kernel
theorem i201_79 : zfetch 201 79 = some (8, .ireturn, 1) := by decide +kernel
theorem i201_80 : zfetch 201 80 = some (8, .aload_n 0, 1) := by decide +kernel
theorem i201_81 : zfetch 201 81 = some (8, .bipush 60, 2) := by decide +kernel
theorem i201_83 : zfetch 201 83 = some (8, .invokevirtual 261, 3) := by decide +kernel
theorem i201_86 : zfetch 201 86 = some (8, .aload_n 0, 1) := by decide +kernel
theorem i201_87 : zfetch 201 87 = some (8, .iconst 5, 1) := by decide +kernel
theorem i201_88 : zfetch 201 88 = some (8, .invokestatic 197, 3) := by decide +kernel
theorem i201_91 : zfetch 201 91 = some (8, .iload_n 2, 1) := by decide +kernel
theorem i201_92 : zfetch 201 92 = some (8, .iconst 1, 1) := by decide +kernel
theorem i201_93 : zfetch 201 93 = some (8, .iadd, 1) := by decide +kernel
theorem i201_94 : zfetch 201 94 = some (8, .invokevirtual 270, 3) := by decide +kernel
theorem i201_97 : zfetch 201 97 = some (8, .ireturn, 1) := by decide +kernel
theorem i201_98 : zfetch 201 98 = some (8, .aload_n 0, 1) := by decide +kernel
theorem i201_99 : zfetch 201 99 = some (8, .bipush 71, 2) := by decide +kernel
theorem i201_101 : zfetch 201 101 = some (8, .invokevirtual 261, 3) := by decide +kernel
theorem i201_104 : zfetch 201 104 = some (8, .aload_n 0, 1) := by decide +kernel
theorem i201_105 : zfetch 201 105 = some (8, .bipush 6, 2) := by decide +kernel
theorem i201_107 : zfetch 201 107 = some (8, .invokestatic 197, 3) := by decide +kernel
theorem i201_110 : zfetch 201 110 = some (8, .iload_n 2, 1) := by decide +kernel
theorem i201_111 : zfetch 201 111 = some (8, .invokevirtual 270, 3) := by decide +kernel
theorem i201_114 : zfetch 201 114 = some (8, .aload_n 0, 1) := by decide +kernel
theorem i201_115 : zfetch 201 115 = some (8, .invokevirtual 273, 3) := by decide +kernel
theorem i201_118 : zfetch 201 118 = some (8, .iadd, 1) := by decide +kernel
theorem i201_119 : zfetch 201 119 = some (8, .ireturn, 1) := by decide +kernel
theorem i201_120 : zfetch 201 120 = some (8, .aload_n 0, 1) := by decide +kernel
theorem i201_121 : zfetch 201 121 = some (8, .iload_n 1, 1) := by decide +kernel
theorem i201_122 : zfetch 201 122 = some (8, .invokestatic 197, 3) := by decide +kernel
theorem i201_125 : zfetch 201 125 = some (8, .iload_n 2, 1) := by decide +kernel
theorem i201_126 : zfetch 201 126 = some (8, .invokevirtual 270, 3) := by decide +kernel
theorem i201_129 : zfetch 201 129 = some (8, .ireturn, 1) := by decide +kernel
theorem i202_0 : zfetch 202 0 = some (8, .iload_n 1, 1) := by decide +kernel
theorem i202_1 : zfetch 202 1 = some (8, .tableswitch 95 0 4 #[35, 95, 95, 56, 74], 35) := by decide +kernel
theorem i202_36 : zfetch 202 36 = some (8, .aload_n 0, 1) := by decide +kernel
theorem i202_37 : zfetch 202 37 = some (8, .bipush 12, 2) := by decide +kernel
theorem i202_39 : zfetch 202 39 = some (8, .invokevirtual 261, 3) := by decide +kernel
theorem i202_42 : zfetch 202 42 = some (8, .aload_n 0, 1) := by decide +kernel
theorem i202_43 : zfetch 202 43 = some (8, .aload_n 0, 1) := by decide +kernel
theorem i202_44 : zfetch 202 44 = some (8, .invokevirtual 267, 3) := by decide +kernel
theorem i202_47 : zfetch 202 47 = some (8, .iload_n 2, 1) := by decide +kernel
theorem i202_48 : zfetch 202 48 = some (8, .invokevirtual 270, 3) := by decide +kernel
theorem i202_51 : zfetch 202 51 = some (8, .aload_n 0, 1) := by decide +kernel
theorem i202_52 : zfetch 202 52 = some (8, .invokevirtual 273, 3) := by decide +kernel
theorem i202_55 : zfetch 202 55 = some (8, .isub, 1) := by decide +kernel
theorem i202_56 : zfetch 202 56 = some (8, .ireturn, 1) := by decide +kernel
theorem i202_57 : zfetch 202 57 = some (8, .aload_n 0, 1) := by decide +kernel
theorem i202_58 : zfetch 202 58 = some (8, .bipush 40, 2) := by decide +kernel
theorem i202_60 : zfetch 202 60 = some (8, .invokevirtual 261, 3) := by decide +kernel
theorem i202_63 : zfetch 202 63 = some (8, .aload_n 0, 1) := by decide +kernel
theorem i202_64 : zfetch 202 64 = some (8, .iconst 3, 1) := by decide +kernel
theorem i202_65 : zfetch 202 65 = some (8, .invokestatic 197, 3) := by decide +kernel
theorem i202_68 : zfetch 202 68 = some (8, .iload_n 2, 1) := by decide +kernel
theorem i202_69 : zfetch 202 69 = some (8, .iconst 2, 1) := by decide +kernel
theorem i202_70 : zfetch 202 70 = some (8, .idiv, 1) := by decide +kernel
theorem i202_71 : zfetch 202 71 = some (8, .invokevirtual 276, 3) := by decide +kernel
theorem i202_74 : zfetch 202 74 = some (8, .ireturn, 1) := by decide +kernel
theorem i202_75 : zfetch 202 75 = some (8, .aload_n 0, 1) := by decide +kernel
theorem i202_76 : zfetch 202 76 = some (8, .bipush 51, 2) := by decide +kernel
theorem i202_78 : zfetch 202 78 = some (8, .invokevirtual 261, 3) := by decide +kernel
theorem i202_81 : zfetch 202 81 = some (8, .aload_n 0, 1) := by decide +kernel
theorem i202_82 : zfetch 202 82 = some (8, .iconst 4, 1) := by decide +kernel
theorem i202_83 : zfetch 202 83 = some (8, .invokestatic 197, 3) := by decide +kernel
theorem i202_86 : zfetch 202 86 = some (8, .iload_n 2, 1) := by decide +kernel
theorem i202_87 : zfetch 202 87 = some (8, .invokevirtual 276, 3) := by decide +kernel
theorem i202_90 : zfetch 202 90 = some (8, .aload_n 0, 1) := by decide +kernel
theorem i202_91 : zfetch 202 91 = some (8, .getfield 258, 3) := by decide +kernel
theorem i202_94 : zfetch 202 94 = some (8, .ixor, 1) := by decide +kernel
theorem i202_95 : zfetch 202 95 = some (8, .ireturn, 1) := by decide +kernel
theorem i202_96 : zfetch 202 96 = some (8, .aload_n 0, 1) := by decide +kernel
theorem i202_97 : zfetch 202 97 = some (8, .iload_n 1, 1) := by decide +kernel
theorem i202_98 : zfetch 202 98 = some (8, .invokestatic 197, 3) := by decide +kernel
theorem i202_101 : zfetch 202 101 = some (8, .iload_n 2, 1) := by decide +kernel
theorem i202_102 : zfetch 202 102 = some (8, .invokevirtual 276, 3) := by decide +kernel
theorem i202_105 : zfetch 202 105 = some (8, .ireturn, 1) := by decide +kernel
theorem i203_0 : zfetch 203 0 = some (8, .iload_n 1, 1) := by decide +kernel
theorem i203_1 : zfetch 203 1 = some (8, .lookupswitch 119 #[(0, 27), (1, 78)], 27) := by decide +kernel
theorem i203_28 : zfetch 203 28 = some (8, .aload_n 0, 1) := by decide +kernel
theorem i203_29 : zfetch 203 29 = some (8, .bipush 13, 2) := by decide +kernel
theorem i203_31 : zfetch 203 31 = some (8, .invokevirtual 261, 3) := by decide +kernel
theorem i203_34 : zfetch 203 34 = some (8, .aload_n 0, 1) := by decide +kernel
theorem i203_35 : zfetch 203 35 = some (8, .invokevirtual 273, 3) := by decide +kernel
theorem i203_38 : zfetch 203 38 = some (8, .aload_n 0, 1) := by decide +kernel
theorem i203_39 : zfetch 203 39 = some (8, .getfield 258, 3) := by decide +kernel
theorem i203_42 : zfetch 203 42 = some (8, .isub, 1) := by decide +kernel
theorem i203_43 : zfetch 203 43 = some (8, .istore_n 3, 1) := by decide +kernel
theorem i203_44 : zfetch 203 44 = some (8, .aload_n 0, 1) := by decide +kernel
theorem i203_45 : zfetch 203 45 = some (8, .iload_n 3, 1) := by decide +kernel
theorem i203_46 : zfetch 203 46 = some (8, .ifCond .ne 7, 3) := by decide +kernel
theorem i203_49 : zfetch 203 49 = some (8, .iconst 1, 1) := by decide +kernel
theorem i203_50 : zfetch 203 50 = some (8, .goto 4, 3) := by decide +kernel
theorem i203_53 : zfetch 203 53 = some (8, .iconst 0, 1) := by decide +kernel
theorem i203_54 : zfetch 203 54 = some (8, .putfield 279, 3) := by decide +kernel
theorem i203_57 : zfetch 203 57 = some (8, .iload_n 3, 1) := by decide +kernel
theorem i203_58 : zfetch 203 58 = some (8, .ifCond .ne 7, 3) := by decide +kernel
theorem i203_61 : zfetch 203 61 = some (8, .iconst 0, 1) := by decide +kernel
theorem i203_62 : zfetch 203 62 = some (8, .goto 16, 3) := by decide +kernel
theorem i203_65 : zfetch 203 65 = some (8, .iload_n 3, 1) := by decide +kernel
theorem i203_66 : zfetch 203 66 = some (8, .iconst (-1), 1) := by decide +kernel
theorem i203_67 : zfetch 203 67 = some (8, .if_icmp .ne 8, 3) := by decide +kernel
theorem i203_70 : zfetch 203 70 = some (8, .iload_n 2, 1) := by decide +kernel
theorem i203_71 : zfetch 203 71 = some (8, .ineg, 1) := by decide +kernel
theorem i203_72 : zfetch 203 72 = some (8, .goto 6, 3) := by decide +kernel
theorem i203_75 : zfetch 203 75 = some (8, .iload_n 2, 1) := by decide +kernel
theorem i203_76 : zfetch 203 76 = some (8, .iload_n 3, 1) := by decide +kernel
theorem i203_77 : zfetch 203 77 = some (8, .idiv, 1) := by decide +kernel
theorem i203_78 : zfetch 203 78 = some (8, .ireturn, 1) := by decide +kernel
theorem i203_79 : zfetch 203 79 = some (8, .aload_n 0, 1) := by decide +kernel
theorem i203_80 : zfetch 203 80 = some (8, .bipush 21, 2) := by decide +kernel
theorem i203_82 : zfetch 203 82 = some (8, .invokevirtual 261, 3) := by decide +kernel
theorem i203_85 : zfetch 203 85 = some (8, .aload_n 0, 1) := by decide +kernel
theorem i203_86 : zfetch 203 86 = some (8, .iconst 1, 1) := by decide +kernel
theorem i203_87 : zfetch 203 87 = some (8, .invokestatic 197, 3) := by decide +kernel
theorem i203_90 : zfetch 203 90 = some (8, .iload_n 2, 1) := by decide +kernel
theorem i203_91 : zfetch 203 91 = some (8, .invokevirtual 283, 3) := by decide +kernel
theorem i203_94 : zfetch 203 94 = some (8, .istore 4, 2) := by decide +kernel
theorem i203_96 : zfetch 203 96 = some (8, .aload_n 0, 1) := by decide +kernel
theorem i203_97 : zfetch 203 97 = some (8, .getfield 279, 3) := by decide +kernel
theorem i203_100 : zfetch 203 100 = some (8, .ifCond .eq 7, 3) := by decide +kernel
theorem i203_103 : zfetch 203 103 = some (8, .iconst 0, 1) := by decide +kernel
theorem i203_104 : zfetch 203 104 = some (8, .goto 15, 3) := by decide +kernel
theorem i203_107 : zfetch 203 107 = some (8, .iload 4, 2) := by decide +kernel
theorem i203_109 : zfetch 203 109 = some (8, .aload_n 0, 1) := by decide +kernel
theorem i203_110 : zfetch 203 110 = some (8, .aload_n 0, 1) := by decide +kernel
theorem i203_111 : zfetch 203 111 = some (8, .invokevirtual 267, 3) := by decide +kernel
theorem i203_114 : zfetch 203 114 = some (8, .iconst 1, 1) := by decide +kernel
theorem i203_115 : zfetch 203 115 = some (8, .invokevirtual 270, 3) := by decide +kernel
theorem i203_118 : zfetch 203 118 = some (8, .iadd, 1) := by decide +kernel
theorem i203_119 : zfetch 203 119 = some (8, .ireturn, 1) := by decide +kernel
theorem i203_120 : zfetch 203 120 = some (8, .aload_n 0, 1) := by decide +kernel
theorem i203_121 : zfetch 203 121 = some (8, .iload_n 1, 1) := by decide +kernel
theorem i203_122 : zfetch 203 122 = some (8, .invokestatic 197, 3) := by decide +kernel
theorem i203_125 : zfetch 203 125 = some (8, .iload_n 2, 1) := by decide +kernel
theorem i203_126 : zfetch 203 126 = some (8, .invokevirtual 283, 3) := by decide +kernel
theorem i203_129 : zfetch 203 129 = some (8, .ireturn, 1) := by decide +kernel
theorem i204_0 : zfetch 204 0 = some (8, .aload_n 0, 1) := by decide +kernel
theorem i204_1 : zfetch 204 1 = some (8, .iload_n 1, 1) := by decide +kernel
theorem i204_2 : zfetch 204 2 = some (8, .invokevirtual 194, 3) := by decide +kernel
theorem i204_5 : zfetch 204 5 = some (8, .ifCond .eq 12, 3) := by decide +kernel
theorem i204_8 : zfetch 204 8 = some (8, .iload_n 2, 1) := by decide +kernel
theorem i204_9 : zfetch 204 9 = some (8, .iconst 0, 1) := by decide +kernel
theorem i204_10 : zfetch 204 10 = some (8, .iconst 3, 1) := by decide +kernel
theorem i204_11 : zfetch 204 11 = some (8, .invokestatic 50, 3) := by decide +kernel
theorem i204_14 : zfetch 204 14 = some (8, .ifCond .ne 9, 3) := by decide +kernel
theorem i204_17 : zfetch 204 17 = some (8, .aload_n 0, 1) := by decide +kernel
theorem i204_18 : zfetch 204 18 = some (8, .iconst 1, 1) := by decide +kernel
theorem i204_19 : zfetch 204 19 = some (8, .invokevirtual 58, 3) := by decide +kernel
theorem i204_22 : zfetch 204 22 = some (8, .ireturn, 1) := by decide +kernel
theorem i204_23 : zfetch 204 23 = some (8, .aload_n 0, 1) := by decide +kernel
theorem i204_24 : zfetch 204 24 = some (8, .iconst 0, 1) := by decide +kernel
theorem i204_25 : zfetch 204 25 = some (8, .putfield 255, 3) := by decide +kernel
theorem i204_28 : zfetch 204 28 = some (8, .aload_n 0, 1) := by decide +kernel
theorem i204_29 : zfetch 204 29 = some (8, .iload_n 1, 1) := by decide +kernel
theorem i204_30 : zfetch 204 30 = some (8, .putfield 258, 3) := by decide +kernel
theorem i204_33 : zfetch 204 33 = some (8, .aload_n 0, 1) := by decide +kernel
theorem i204_34 : zfetch 204 34 = some (8, .iconst 0, 1) := by decide +kernel
theorem i204_35 : zfetch 204 35 = some (8, .putfield 279, 3) := by decide +kernel
theorem i204_38 : zfetch 204 38 = some (8, .aload_n 0, 1) := by decide +kernel
theorem i204_39 : zfetch 204 39 = some (8, .invokevirtual 267, 3) := by decide +kernel
theorem i204_42 : zfetch 204 42 = some (8, .istore 4, 2) := by decide +kernel
theorem i204_44 : zfetch 204 44 = some (8, .iload_n 2, 1) := by decide +kernel
theorem i204_45 : zfetch 204 45 = some (8, .ifCond .ne 13, 3) := by decide +kernel
theorem i204_48 : zfetch 204 48 = some (8, .aload_n 0, 1) := by decide +kernel
theorem i204_49 : zfetch 204 49 = some (8, .iload 4, 2) := by decide +kernel
theorem i204_51 : zfetch 204 51 = some (8, .iload_n 3, 1) := by decide +kernel
theorem i204_52 : zfetch 204 52 = some (8, .invokevirtual 264, 3) := by decide +kernel
theorem i204_55 : zfetch 204 55 = some (8, .goto 40, 3) := by decide +kernel
theorem i204_58 : zfetch 204 58 = some (8, .iload_n 2, 1) := by decide +kernel
theorem i204_59 : zfetch 204 59 = some (8, .iconst 1, 1) := by decide +kernel
theorem i204_60 : zfetch 204 60 = some (8, .if_icmp .ne 13, 3) := by decide +kernel
theorem i204_63 : zfetch 204 63 = some (8, .aload_n 0, 1) := by decide +kernel
theorem i204_64 : zfetch 204 64 = some (8, .iload 4, 2) := by decide +kernel
theorem i204_66 : zfetch 204 66 = some (8, .iload_n 3, 1) := by decide +kernel
theorem i204_67 : zfetch 204 67 = some (8, .invokevirtual 270, 3) := by decide +kernel
theorem i204_70 : zfetch 204 70 = some (8, .goto 25, 3) := by decide +kernel
theorem i204_73 : zfetch 204 73 = some (8, .iload_n 2, 1) := by decide +kernel
theorem i204_74 : zfetch 204 74 = some (8, .iconst 2, 1) := by decide +kernel
theorem i204_75 : zfetch 204 75 = some (8, .if_icmp .ne 13, 3) := by decide +kernel
theorem i204_78 : zfetch 204 78 = some (8, .aload_n 0, 1) := by decide +kernel
theorem i204_79 : zfetch 204 79 = some (8, .iload 4, 2) := by decide +kernel
theorem i204_81 : zfetch 204 81 = some (8, .iload_n 3, 1) := by decide +kernel
theorem i204_82 : zfetch 204 82 = some (8, .invokevirtual 276, 3) := by decide +kernel
theorem i204_85 : zfetch 204 85 = some (8, .goto 10, 3) := by decide +kernel
theorem i204_88 : zfetch 204 88 = some (8, .aload_n 0, 1) := by decide +kernel
theorem i204_89 : zfetch 204 89 = some (8, .iload 4, 2) := by decide +kernel
theorem i204_91 : zfetch 204 91 = some (8, .iload_n 3, 1) := by decide +kernel
theorem i204_92 : zfetch 204 92 = some (8, .invokevirtual 283, 3) := by decide +kernel
theorem i204_95 : zfetch 204 95 = some (8, .istore 5, 2) := by decide +kernel
theorem i204_97 : zfetch 204 97 = some (8, .aload_n 0, 1) := by decide +kernel
theorem i204_98 : zfetch 204 98 = some (8, .getfield 279, 3) := by decide +kernel
theorem i204_101 : zfetch 204 101 = some (8, .ifCond .eq 12, 3) := by decide +kernel
theorem i204_104 : zfetch 204 104 = some (8, .aload_n 0, 1) := by decide +kernel
theorem i204_105 : zfetch 204 105 = some (8, .bipush 6, 2) := by decide +kernel
theorem i204_107 : zfetch 204 107 = some (8, .invokevirtual 58, 3) := by decide +kernel
theorem i204_110 : zfetch 204 110 = some (8, .goto 5, 3) := by decide +kernel
theorem i204_113 : zfetch 204 113 = some (8, .iload 5, 2) := by decide +kernel
theorem i204_115 : zfetch 204 115 = some (8, .ireturn, 1) := by decide +kernel
theorem i205_0 : zfetch 205 0 = some (8, .iload_n 1, 1) := by decide +kernel
theorem i205_1 : zfetch 205 1 = some (8, .iconst 0, 1) := by decide +kernel
theorem i205_2 : zfetch 205 2 = some (8, .aload_n 0, 1) := by decide +kernel
theorem i205_3 : zfetch 205 3 = some (8, .getfield 255, 3) := by decide +kernel
theorem i205_6 : zfetch 205 6 = some (8, .iconst 1, 1) := by decide +kernel
theorem i205_7 : zfetch 205 7 = some (8, .isub, 1) := by decide +kernel
theorem i205_8 : zfetch 205 8 = some (8, .invokestatic 50, 3) := by decide +kernel
theorem i205_11 : zfetch 205 11 = some (8, .ifCond .eq 12, 3) := by decide +kernel
theorem i205_14 : zfetch 205 14 = some (8, .aload_n 0, 1) := by decide +kernel
theorem i205_15 : zfetch 205 15 = some (8, .getfield 34, 3) := by decide +kernel
theorem i205_18 : zfetch 205 18 = some (8, .iload_n 1, 1) := by decide +kernel
theorem i205_19 : zfetch 205 19 = some (8, .iaload, 1) := by decide +kernel
theorem i205_20 : zfetch 205 20 = some (8, .goto 8, 3) := by decide +kernel
theorem i205_23 : zfetch 205 23 = some (8, .aload_n 0, 1) := by decide +kernel
theorem i205_24 : zfetch 205 24 = some (8, .iconst 2, 1) := by decide +kernel
theorem i205_25 : zfetch 205 25 = some (8, .invokevirtual 58, 3) := by decide +kernel
theorem i205_28 : zfetch 205 28 = some (8, .ireturn, 1) := by decide +kernel
theorem i206_0 : zfetch 206 0 = some (8, .iload_n 0, 1) := by decide +kernel
theorem i206_1 : zfetch 206 1 = some (8, .iconst 0, 1) := by decide +kernel
theorem i206_2 : zfetch 206 2 = some (8, .iconst 3, 1) := by decide +kernel
theorem i206_3 : zfetch 206 3 = some (8, .invokestatic 50, 3) := by decide +kernel
theorem i206_6 : zfetch 206 6 = some (8, .ireturn, 1) := by decide +kernel
theorem i207_0 : zfetch 207 0 = some (8, .iload_n 1, 1) := by decide +kernel
theorem i207_1 : zfetch 207 1 = some (8, .invokestatic 252, 3) := by decide +kernel
theorem i207_4 : zfetch 207 4 = some (8, .ifCond .eq 25, 3) := by decide +kernel
theorem i207_7 : zfetch 207 7 = some (8, .iload_n 2, 1) := by decide +kernel
theorem i207_8 : zfetch 207 8 = some (8, .ifCond .eq 27, 3) := by decide +kernel
theorem i207_11 : zfetch 207 11 = some (8, .iload_n 2, 1) := by decide +kernel
theorem i207_12 : zfetch 207 12 = some (8, .bipush 8, 2) := by decide +kernel
theorem i207_14 : zfetch 207 14 = some (8, .if_icmp .eq 21, 3) := by decide +kernel
theorem i207_17 : zfetch 207 17 = some (8, .iload_n 2, 1) := by decide +kernel
theorem i207_18 : zfetch 207 18 = some (8, .bipush 16, 2) := by decide +kernel
theorem i207_20 : zfetch 207 20 = some (8, .if_icmp .eq 15, 3) := by decide +kernel
theorem i207_23 : zfetch 207 23 = some (8, .iload_n 2, 1) := by decide +kernel
theorem i207_24 : zfetch 207 24 = some (8, .bipush 32, 2) := by decide +kernel
theorem i207_26 : zfetch 207 26 = some (8, .if_icmp .eq 9, 3) := by decide +kernel
theorem i207_29 : zfetch 207 29 = some (8, .aload_n 0, 1) := by decide +kernel
theorem i207_30 : zfetch 207 30 = some (8, .iconst 1, 1) := by decide +kernel
theorem i207_31 : zfetch 207 31 = some (8, .invokevirtual 58, 3) := by decide +kernel
theorem i207_34 : zfetch 207 34 = some (8, .ireturn, 1) := by decide +kernel
theorem i207_35 : zfetch 207 35 = some (8, .iload_n 2, 1) := by decide +kernel
theorem i207_36 : zfetch 207 36 = some (8, .ifCond .eq 13, 3) := by decide +kernel
theorem i207_39 : zfetch 207 39 = some (8, .iload_n 3, 1) := by decide +kernel
theorem i207_40 : zfetch 207 40 = some (8, .ifCond .ge 9, 3) := by decide +kernel
theorem i207_43 : zfetch 207 43 = some (8, .aload_n 0, 1) := by decide +kernel
theorem i207_44 : zfetch 207 44 = some (8, .iconst 3, 1) := by decide +kernel
theorem i207_45 : zfetch 207 45 = some (8, .invokevirtual 58, 3) := by decide +kernel
theorem i207_48 : zfetch 207 48 = some (8, .ireturn, 1) := by decide +kernel
theorem i207_49 : zfetch 207 49 = some (8, .iload_n 2, 1) := by decide +kernel
theorem i207_50 : zfetch 207 50 = some (8, .ifCond .eq 15, 3) := by decide +kernel
theorem i207_53 : zfetch 207 53 = some (8, .iload_n 3, 1) := by decide +kernel
theorem i207_54 : zfetch 207 54 = some (8, .bipush 24, 2) := by decide +kernel
theorem i207_56 : zfetch 207 56 = some (8, .if_icmp .le 9, 3) := by decide +kernel
theorem i207_59 : zfetch 207 59 = some (8, .aload_n 0, 1) := by decide +kernel
theorem i207_60 : zfetch 207 60 = some (8, .iconst 1, 1) := by decide +kernel
theorem i207_61 : zfetch 207 61 = some (8, .invokevirtual 58, 3) := by decide +kernel
theorem i207_64 : zfetch 207 64 = some (8, .ireturn, 1) := by decide +kernel
theorem i207_65 : zfetch 207 65 = some (8, .aload_n 0, 1) := by decide +kernel
theorem i207_66 : zfetch 207 66 = some (8, .getfield 37, 3) := by decide +kernel
theorem i207_69 : zfetch 207 69 = some (8, .iload_n 1, 1) := by decide +kernel
theorem i207_70 : zfetch 207 70 = some (8, .iload_n 2, 1) := by decide +kernel
theorem i207_71 : zfetch 207 71 = some (8, .iastore, 1) := by decide +kernel
theorem i207_72 : zfetch 207 72 = some (8, .aload_n 0, 1) := by decide +kernel
theorem i207_73 : zfetch 207 73 = some (8, .getfield 40, 3) := by decide +kernel
theorem i207_76 : zfetch 207 76 = some (8, .iload_n 1, 1) := by decide +kernel
theorem i207_77 : zfetch 207 77 = some (8, .iload_n 2, 1) := by decide +kernel
theorem i207_78 : zfetch 207 78 = some (8, .ifCond .ne 7, 3) := by decide +kernel
theorem i207_81 : zfetch 207 81 = some (8, .iconst 0, 1) := by decide +kernel
theorem i207_82 : zfetch 207 82 = some (8, .goto 4, 3) := by decide +kernel
theorem i207_85 : zfetch 207 85 = some (8, .iload_n 3, 1) := by decide +kernel
theorem i207_86 : zfetch 207 86 = some (8, .iastore, 1) := by decide +kernel
theorem i207_87 : zfetch 207 87 = some (8, .iconst 0, 1) := by decide +kernel
theorem i207_88 : zfetch 207 88 = some (8, .istore 4, 2) := by decide +kernel
theorem i207_90 : zfetch 207 90 = some (8, .iload 4, 2) := by decide +kernel
theorem i207_92 : zfetch 207 92 = some (8, .bipush 24, 2) := by decide +kernel
theorem i207_94 : zfetch 207 94 = some (8, .if_icmp .ge 22, 3) := by decide +kernel
theorem i207_97 : zfetch 207 97 = some (8, .aload_n 0, 1) := by decide +kernel
theorem i207_98 : zfetch 207 98 = some (8, .getfield 43, 3) := by decide +kernel
theorem i207_101 : zfetch 207 101 = some (8, .bipush 24, 2) := by decide +kernel
theorem i207_103 : zfetch 207 103 = some (8, .iload_n 1, 1) := by decide +kernel
theorem i207_104 : zfetch 207 104 = some (8, .imul, 1) := by decide +kernel
theorem i207_105 : zfetch 207 105 = some (8, .iload 4, 2) := by decide +kernel
theorem i207_107 : zfetch 207 107 = some (8, .iadd, 1) := by decide +kernel
theorem i207_108 : zfetch 207 108 = some (8, .iconst 0, 1) := by decide +kernel
theorem i207_109 : zfetch 207 109 = some (8, .iastore, 1) := by decide +kernel
theorem i207_110 : zfetch 207 110 = some (8, .iinc 4 1, 3) := by decide +kernel
theorem i207_113 : zfetch 207 113 = some (8, .goto (-23), 3) := by decide +kernel
theorem i207_116 : zfetch 207 116 = some (8, .iconst 1, 1) := by decide +kernel
theorem i207_117 : zfetch 207 117 = some (8, .ireturn, 1) := by decide +kernel
theorem i208_0 : zfetch 208 0 = some (8, .iload_n 1, 1) := by decide +kernel
theorem i208_1 : zfetch 208 1 = some (8, .invokestatic 252, 3) := by decide +kernel
theorem i208_4 : zfetch 208 4 = some (8, .ifCond .ne 9, 3) := by decide +kernel
theorem i208_7 : zfetch 208 7 = some (8, .aload_n 0, 1) := by decide +kernel
theorem i208_8 : zfetch 208 8 = some (8, .iconst 1, 1) := by decide +kernel
theorem i208_9 : zfetch 208 9 = some (8, .invokevirtual 58, 3) := by decide +kernel
theorem i208_12 : zfetch 208 12 = some (8, .ireturn, 1) := by decide +kernel
theorem i208_13 : zfetch 208 13 = some (8, .aload_n 0, 1) := by decide +kernel
theorem i208_14 : zfetch 208 14 = some (8, .getfield 37, 3) := by decide +kernel
theorem i208_17 : zfetch 208 17 = some (8, .iload_n 1, 1) := by decide +kernel
theorem i208_18 : zfetch 208 18 = some (8, .iaload, 1) := by decide +kernel
theorem i208_19 : zfetch 208 19 = some (8, .ifCond .ne 9, 3) := by decide +kernel
theorem i208_22 : zfetch 208 22 = some (8, .aload_n 0, 1) := by decide +kernel
theorem i208_23 : zfetch 208 23 = some (8, .iconst 2, 1) := by decide +kernel
theorem i208_24 : zfetch 208 24 = some (8, .invokevirtual 58, 3) := by decide +kernel
theorem i208_27 : zfetch 208 27 = some (8, .ireturn, 1) := by decide +kernel
theorem i208_28 : zfetch 208 28 = some (8, .iload_n 2, 1) := by decide +kernel
theorem i208_29 : zfetch 208 29 = some (8, .iconst 0, 1) := by decide +kernel
theorem i208_30 : zfetch 208 30 = some (8, .aload_n 0, 1) := by decide +kernel
theorem i208_31 : zfetch 208 31 = some (8, .getfield 40, 3) := by decide +kernel
theorem i208_34 : zfetch 208 34 = some (8, .iload_n 1, 1) := by decide +kernel
theorem i208_35 : zfetch 208 35 = some (8, .iaload, 1) := by decide +kernel
theorem i208_36 : zfetch 208 36 = some (8, .iconst 1, 1) := by decide +kernel
theorem i208_37 : zfetch 208 37 = some (8, .isub, 1) := by decide +kernel
theorem i208_38 : zfetch 208 38 = some (8, .invokestatic 50, 3) := by decide +kernel
theorem i208_41 : zfetch 208 41 = some (8, .ifCond .ne 9, 3) := by decide +kernel
theorem i208_44 : zfetch 208 44 = some (8, .aload_n 0, 1) := by decide +kernel
theorem i208_45 : zfetch 208 45 = some (8, .iconst 1, 1) := by decide +kernel
theorem i208_46 : zfetch 208 46 = some (8, .invokevirtual 58, 3) := by decide +kernel
theorem i208_49 : zfetch 208 49 = some (8, .ireturn, 1) := by decide +kernel
theorem i208_50 : zfetch 208 50 = some (8, .bipush 32, 2) := by decide +kernel
theorem i208_52 : zfetch 208 52 = some (8, .aload_n 0, 1) := by decide +kernel
theorem i208_53 : zfetch 208 53 = some (8, .getfield 37, 3) := by decide +kernel
theorem i208_56 : zfetch 208 56 = some (8, .iload_n 1, 1) := by decide +kernel
theorem i208_57 : zfetch 208 57 = some (8, .iaload, 1) := by decide +kernel
theorem i208_58 : zfetch 208 58 = some (8, .isub, 1) := by decide +kernel
theorem i208_59 : zfetch 208 59 = some (8, .istore 4, 2) := by decide +kernel
theorem i208_61 : zfetch 208 61 = some (8, .aload_n 0, 1) := by decide +kernel
theorem i208_62 : zfetch 208 62 = some (8, .getfield 43, 3) := by decide +kernel
theorem i208_65 : zfetch 208 65 = some (8, .bipush 24, 2) := by decide +kernel
theorem i208_67 : zfetch 208 67 = some (8, .iload_n 1, 1) := by decide +kernel
theorem i208_68 : zfetch 208 68 = some (8, .imul, 1) := by decide +kernel
theorem i208_69 : zfetch 208 69 = some (8, .iload_n 2, 1) := by decide +kernel
theorem i208_70 : zfetch 208 70 = some (8, .iadd, 1) := by decide +kernel
theorem i208_71 : zfetch 208 71 = some (8, .iload_n 3, 1) := by decide +kernel
theorem i208_72 : zfetch 208 72 = some (8, .iload 4, 2) := by decide +kernel
theorem i208_74 : zfetch 208 74 = some (8, .ishl, 1) := by decide +kernel
theorem i208_75 : zfetch 208 75 = some (8, .iload 4, 2) := by decide +kernel
theorem i208_77 : zfetch 208 77 = some (8, .ishr, 1) := by decide +kernel
theorem i208_78 : zfetch 208 78 = some (8, .iastore, 1) := by decide +kernel
theorem i208_79 : zfetch 208 79 = some (8, .iconst 1, 1) := by decide +kernel
theorem i208_80 : zfetch 208 80 = some (8, .ireturn, 1) := by decide +kernel
theorem i209_0 : zfetch 209 0 = some (8, .iload_n 1, 1) := by decide +kernel
theorem i209_1 : zfetch 209 1 = some (8, .invokestatic 252, 3) := by decide +kernel
theorem i209_4 : zfetch 209 4 = some (8, .ifCond .eq 10, 3) := by decide +kernel
theorem i209_7 : zfetch 209 7 = some (8, .iload_n 3, 1) := by decide +kernel
theorem i209_8 : zfetch 209 8 = some (8, .invokestatic 252, 3) := by decide +kernel
theorem i209_11 : zfetch 209 11 = some (8, .ifCond .ne 9, 3) := by decide +kernel
theorem i209_14 : zfetch 209 14 = some (8, .aload_n 0, 1) := by decide +kernel
theorem i209_15 : zfetch 209 15 = some (8, .iconst 1, 1) := by decide +kernel
theorem i209_16 : zfetch 209 16 = some (8, .invokevirtual 58, 3) := by decide +kernel
theorem i209_19 : zfetch 209 19 = some (8, .ireturn, 1) := by decide +kernel
theorem i209_20 : zfetch 209 20 = some (8, .aload_n 0, 1) := by decide +kernel
theorem i209_21 : zfetch 209 21 = some (8, .getfield 37, 3) := by decide +kernel
theorem i209_24 : zfetch 209 24 = some (8, .iload_n 1, 1) := by decide +kernel
theorem i209_25 : zfetch 209 25 = some (8, .iaload, 1) := by decide +kernel
theorem i209_26 : zfetch 209 26 = some (8, .ifCond .eq 12, 3) := by decide +kernel
theorem i209_29 : zfetch 209 29 = some (8, .aload_n 0, 1) := by decide +kernel
theorem i209_30 : zfetch 209 30 = some (8, .getfield 37, 3) := by decide +kernel
theorem i209_33 : zfetch 209 33 = some (8, .iload_n 3, 1) := by decide +kernel
theorem i209_34 : zfetch 209 34 = some (8, .iaload, 1) := by decide +kernel
theorem i209_35 : zfetch 209 35 = some (8, .ifCond .ne 9, 3) := by decide +kernel
theorem i209_38 : zfetch 209 38 = some (8, .aload_n 0, 1) := by decide +kernel
theorem i209_39 : zfetch 209 39 = some (8, .iconst 2, 1) := by decide +kernel
theorem i209_40 : zfetch 209 40 = some (8, .invokevirtual 58, 3) := by decide +kernel
theorem i209_43 : zfetch 209 43 = some (8, .ireturn, 1) := by decide +kernel
theorem i209_44 : zfetch 209 44 = some (8, .aload_n 0, 1) := by decide +kernel
theorem i209_45 : zfetch 209 45 = some (8, .getfield 37, 3) := by decide +kernel
theorem i209_48 : zfetch 209 48 = some (8, .iload_n 1, 1) := by decide +kernel
theorem i209_49 : zfetch 209 49 = some (8, .iaload, 1) := by decide +kernel
theorem i209_50 : zfetch 209 50 = some (8, .aload_n 0, 1) := by decide +kernel
theorem i209_51 : zfetch 209 51 = some (8, .getfield 37, 3) := by decide +kernel
theorem i209_54 : zfetch 209 54 = some (8, .iload_n 3, 1) := by decide +kernel
theorem i209_55 : zfetch 209 55 = some (8, .iaload, 1) := by decide +kernel
theorem i209_56 : zfetch 209 56 = some (8, .if_icmp .eq 9, 3) := by decide +kernel
theorem i209_59 : zfetch 209 59 = some (8, .aload_n 0, 1) := by decide +kernel
theorem i209_60 : zfetch 209 60 = some (8, .iconst 5, 1) := by decide +kernel
theorem i209_61 : zfetch 209 61 = some (8, .invokevirtual 58, 3) := by decide +kernel
theorem i209_64 : zfetch 209 64 = some (8, .ireturn, 1) := by decide +kernel
theorem i209_65 : zfetch 209 65 = some (8, .iload 5, 2) := by decide +kernel
theorem i209_67 : zfetch 209 67 = some (8, .ifCond .lt 39, 3) := by decide +kernel
theorem i209_70 : zfetch 209 70 = some (8, .iload_n 2, 1) := by decide +kernel
theorem i209_71 : zfetch 209 71 = some (8, .ifCond .lt 35, 3) := by decide +kernel
theorem i209_74 : zfetch 209 74 = some (8, .iload 4, 2) := by decide +kernel
theorem i209_76 : zfetch 209 76 = some (8, .ifCond .lt 30, 3) := by decide +kernel
theorem i209_79 : zfetch 209 79 = some (8, .iload_n 2, 1) := by decide +kernel
theorem i209_80 : zfetch 209 80 = some (8, .aload_n 0, 1) := by decide +kernel
theorem i209_81 : zfetch 209 81 = some (8, .getfield 40, 3) := by decide +kernel
theorem i209_84 : zfetch 209 84 = some (8, .iload_n 1, 1) := by decide +kernel
theorem i209_85 : zfetch 209 85 = some (8, .iaload, 1) := by decide +kernel
theorem i209_86 : zfetch 209 86 = some (8, .iload 5, 2) := by decide +kernel
theorem i209_88 : zfetch 209 88 = some (8, .isub, 1) := by decide +kernel
theorem i209_89 : zfetch 209 89 = some (8, .if_icmp .gt 17, 3) := by decide +kernel
theorem i209_92 : zfetch 209 92 = some (8, .iload 4, 2) := by decide +kernel
theorem i209_94 : zfetch 209 94 = some (8, .aload_n 0, 1) := by decide +kernel
theorem i209_95 : zfetch 209 95 = some (8, .getfield 40, 3) := by decide +kernel
theorem i209_98 : zfetch 209 98 = some (8, .iload_n 3, 1) := by decide +kernel
theorem i209_99 : zfetch 209 99 = some (8, .iaload, 1) := by decide +kernel
theorem i209_100 : zfetch 209 100 = some (8, .iload 5, 2) := by decide +kernel
theorem i209_102 : zfetch 209 102 = some (8, .isub, 1) := by decide +kernel
theorem i209_103 : zfetch 209 103 = some (8, .if_icmp .le 9, 3) := by decide +kernel
theorem i209_106 : zfetch 209 106 = some (8, .aload_n 0, 1) := by decide +kernel
theorem i209_107 : zfetch 209 107 = some (8, .iconst 1, 1) := by decide +kernel
theorem i209_108 : zfetch 209 108 = some (8, .invokevirtual 58, 3) := by decide +kernel
theorem i209_111 : zfetch 209 111 = some (8, .ireturn, 1) := by decide +kernel
theorem i209_112 : zfetch 209 112 = some (8, .iconst 0, 1) := by decide +kernel
theorem i209_113 : zfetch 209 113 = some (8, .istore 6, 2) := by decide +kernel
theorem i209_115 : zfetch 209 115 = some (8, .iload 6, 2) := by decide +kernel
theorem i209_117 : zfetch 209 117 = some (8, .iload 5, 2) := by decide +kernel
theorem i209_119 : zfetch 209 119 = some (8, .if_icmp .ge 30, 3) := by decide +kernel
theorem i209_122 : zfetch 209 122 = some (8, .aload_n 0, 1) := by decide +kernel
theorem i209_123 : zfetch 209 123 = some (8, .getfield 46, 3) := by decide +kernel
theorem i209_126 : zfetch 209 126 = some (8, .iload 6, 2) := by decide +kernel
theorem i209_128 : zfetch 209 128 = some (8, .aload_n 0, 1) := by decide +kernel
theorem i209_129 : zfetch 209 129 = some (8, .getfield 43, 3) := by decide +kernel
theorem i209_132 : zfetch 209 132 = some (8, .bipush 24, 2) := by decide +kernel
theorem i209_134 : zfetch 209 134 = some (8, .iload_n 1, 1) := by decide +kernel
theorem i209_135 : zfetch 209 135 = some (8, .imul, 1) := by decide +kernel
theorem i209_136 : zfetch 209 136 = some (8, .iload_n 2, 1) := by decide +kernel
theorem i209_137 : zfetch 209 137 = some (8, .iadd, 1) := by decide +kernel
theorem i209_138 : zfetch 209 138 = some (8, .iload 6, 2) := by decide +kernel
theorem i209_140 : zfetch 209 140 = some (8, .iadd, 1) := by decide +kernel
theorem i209_141 : zfetch 209 141 = some (8, .iaload, 1) := by decide +kernel
theorem i209_142 : zfetch 209 142 = some (8, .iastore, 1) := by decide +kernel
theorem i209_143 : zfetch 209 143 = some (8, .iinc 6 1, 3) := by decide +kernel
theorem i209_146 : zfetch 209 146 = some (8, .goto (-31), 3) := by decide +kernel
theorem i209_149 : zfetch 209 149 = some (8, .iconst 0, 1) := by decide +kernel
theorem i209_150 : zfetch 209 150 = some (8, .istore 6, 2) := by decide +kernel
theorem i209_152 : zfetch 209 152 = some (8, .iload 6, 2) := by decide +kernel
theorem i209_154 : zfetch 209 154 = some (8, .iload 5, 2) := by decide +kernel
theorem i209_156 : zfetch 209 156 = some (8, .if_icmp .ge 31, 3) := by decide +kernel
theorem i209_159 : zfetch 209 159 = some (8, .aload_n 0, 1) := by decide +kernel
theorem i209_160 : zfetch 209 160 = some (8, .getfield 43, 3) := by decide +kernel
theorem i209_163 : zfetch 209 163 = some (8, .bipush 24, 2) := by decide +kernel
theorem i209_165 : zfetch 209 165 = some (8, .iload_n 3, 1) := by decide +kernel
theorem i209_166 : zfetch 209 166 = some (8, .imul, 1) := by decide +kernel
theorem i209_167 : zfetch 209 167 = some (8, .iload 4, 2) := by decide +kernel
theorem i209_169 : zfetch 209 169 = some (8, .iadd, 1) := by decide +kernel
theorem i209_170 : zfetch 209 170 = some (8, .iload 6, 2) := by decide +kernel
theorem i209_172 : zfetch 209 172 = some (8, .iadd, 1) := by decide +kernel
theorem i209_173 : zfetch 209 173 = some (8, .aload_n 0, 1) := by decide +kernel
theorem i209_174 : zfetch 209 174 = some (8, .getfield 46, 3) := by decide +kernel
theorem i209_177 : zfetch 209 177 = some (8, .iload 6, 2) := by decide +kernel
theorem i209_179 : zfetch 209 179 = some (8, .iaload, 1) := by decide +kernel
theorem i209_180 : zfetch 209 180 = some (8, .iastore, 1) := by decide +kernel
theorem i209_181 : zfetch 209 181 = some (8, .iinc 6 1, 3) := by decide +kernel
theorem i209_184 : zfetch 209 184 = some (8, .goto (-32), 3) := by decide +kernel
theorem i209_187 : zfetch 209 187 = some (8, .iload 5, 2) := by decide +kernel
theorem i209_189 : zfetch 209 189 = some (8, .ireturn, 1) := by decide +kernel
theorem i210_0 : zfetch 210 0 = some (8, .iload_n 1, 1) := by decide +kernel
theorem i210_1 : zfetch 210 1 = some (8, .invokestatic 252, 3) := by decide +kernel
theorem i210_4 : zfetch 210 4 = some (8, .ifCond .ne 7, 3) := by decide +kernel
theorem i210_7 : zfetch 210 7 = some (8, .iconst 1, 1) := by decide +kernel
theorem i210_8 : zfetch 210 8 = some (8, .goto 17, 3) := by decide +kernel
theorem i210_11 : zfetch 210 11 = some (8, .aload_n 0, 1) := by decide +kernel
theorem i210_12 : zfetch 210 12 = some (8, .getfield 37, 3) := by decide +kernel
theorem i210_15 : zfetch 210 15 = some (8, .iload_n 1, 1) := by decide +kernel
theorem i210_16 : zfetch 210 16 = some (8, .iaload, 1) := by decide +kernel
theorem i210_17 : zfetch 210 17 = some (8, .ifCond .ne 7, 3) := by decide +kernel
theorem i210_20 : zfetch 210 20 = some (8, .iconst 2, 1) := by decide +kernel
theorem i210_21 : zfetch 210 21 = some (8, .goto 4, 3) := by decide +kernel
theorem i210_24 : zfetch 210 24 = some (8, .iconst 0, 1) := by decide +kernel
theorem i210_25 : zfetch 210 25 = some (8, .ireturn, 1) := by decide +kernel
theorem i211_0 : zfetch 211 0 = some (8, .aload_n 0, 1) := by decide +kernel
theorem i211_1 : zfetch 211 1 = some (8, .iload_n 1, 1) := by decide +kernel
theorem i211_2 : zfetch 211 2 = some (8, .invokevirtual 286, 3) := by decide +kernel
theorem i211_5 : zfetch 211 5 = some (8, .istore_n 2, 1) := by decide +kernel
theorem i211_6 : zfetch 211 6 = some (8, .iload_n 2, 1) := by decide +kernel
theorem i211_7 : zfetch 211 7 = some (8, .ifCond .eq 9, 3) := by decide +kernel
theorem i211_10 : zfetch 211 10 = some (8, .aload_n 0, 1) := by decide +kernel
theorem i211_11 : zfetch 211 11 = some (8, .iload_n 2, 1) := by decide +kernel
theorem i211_12 : zfetch 211 12 = some (8, .invokevirtual 58, 3) := by decide +kernel
theorem i211_15 : zfetch 211 15 = some (8, .ireturn, 1) := by decide +kernel
theorem i211_16 : zfetch 211 16 = some (8, .iconst 0, 1) := by decide +kernel
theorem i211_17 : zfetch 211 17 = some (8, .istore_n 3, 1) := by decide +kernel
theorem i211_18 : zfetch 211 18 = some (8, .iload_n 3, 1) := by decide +kernel
theorem i211_19 : zfetch 211 19 = some (8, .aload_n 0, 1) := by decide +kernel
theorem i211_20 : zfetch 211 20 = some (8, .getfield 40, 3) := by decide +kernel
theorem i211_23 : zfetch 211 23 = some (8, .iload_n 1, 1) := by decide +kernel
theorem i211_24 : zfetch 211 24 = some (8, .iaload, 1) := by decide +kernel
theorem i211_25 : zfetch 211 25 = some (8, .if_icmp .ge 68, 3) := by decide +kernel
theorem i211_28 : zfetch 211 28 = some (8, .iload_n 3, 1) := by decide +kernel
theorem i211_29 : zfetch 211 29 = some (8, .aload_n 0, 1) := by decide +kernel
theorem i211_30 : zfetch 211 30 = some (8, .getfield 7, 3) := by decide +kernel
theorem i211_33 : zfetch 211 33 = some (8, .iconst 4, 1) := by decide +kernel
theorem i211_34 : zfetch 211 34 = some (8, .iaload, 1) := by decide +kernel
theorem i211_35 : zfetch 211 35 = some (8, .if_icmp .ge 58, 3) := by decide +kernel
theorem i211_38 : zfetch 211 38 = some (8, .aload_n 0, 1) := by decide +kernel
theorem i211_39 : zfetch 211 39 = some (8, .getfield 43, 3) := by decide +kernel
theorem i211_42 : zfetch 211 42 = some (8, .bipush 24, 2) := by decide +kernel
theorem i211_44 : zfetch 211 44 = some (8, .iload_n 1, 1) := by decide +kernel
theorem i211_45 : zfetch 211 45 = some (8, .imul, 1) := by decide +kernel
theorem i211_46 : zfetch 211 46 = some (8, .iload_n 3, 1) := by decide +kernel
theorem i211_47 : zfetch 211 47 = some (8, .iadd, 1) := by decide +kernel
theorem i211_48 : zfetch 211 48 = some (8, .iaload, 1) := by decide +kernel
theorem i211_49 : zfetch 211 49 = some (8, .iconst 0, 1) := by decide +kernel
theorem i211_50 : zfetch 211 50 = some (8, .bipush 99, 2) := by decide +kernel
theorem i211_52 : zfetch 211 52 = some (8, .invokestatic 50, 3) := by decide +kernel
theorem i211_55 : zfetch 211 55 = some (8, .ifCond .eq 38, 3) := by decide +kernel
theorem i211_58 : zfetch 211 58 = some (8, .aload_n 0, 1) := by decide +kernel
theorem i211_59 : zfetch 211 59 = some (8, .iload_n 3, 1) := by decide +kernel
theorem i211_60 : zfetch 211 60 = some (8, .iconst 5, 1) := by decide +kernel
theorem i211_61 : zfetch 211 61 = some (8, .aload_n 0, 1) := by decide +kernel
theorem i211_62 : zfetch 211 62 = some (8, .iload_n 3, 1) := by decide +kernel
theorem i211_63 : zfetch 211 63 = some (8, .invokevirtual 140, 3) := by decide +kernel
theorem i211_66 : zfetch 211 66 = some (8, .ifCond .eq 17, 3) := by decide +kernel
theorem i211_69 : zfetch 211 69 = some (8, .aload_n 0, 1) := by decide +kernel
theorem i211_70 : zfetch 211 70 = some (8, .getfield 43, 3) := by decide +kernel
theorem i211_73 : zfetch 211 73 = some (8, .bipush 24, 2) := by decide +kernel
theorem i211_75 : zfetch 211 75 = some (8, .iload_n 1, 1) := by decide +kernel
theorem i211_76 : zfetch 211 76 = some (8, .imul, 1) := by decide +kernel
theorem i211_77 : zfetch 211 77 = some (8, .iload_n 3, 1) := by decide +kernel
theorem i211_78 : zfetch 211 78 = some (8, .iadd, 1) := by decide +kernel
theorem i211_79 : zfetch 211 79 = some (8, .iaload, 1) := by decide +kernel
theorem i211_80 : zfetch 211 80 = some (8, .goto 4, 3) := by decide +kernel
theorem i211_83 : zfetch 211 83 = some (8, .iconst 0, 1) := by decide +kernel
theorem i211_84 : zfetch 211 84 = some (8, .invokevirtual 149, 3) := by decide +kernel
theorem i211_87 : zfetch 211 87 = some (8, .iinc 3 1, 3) := by decide +kernel
theorem i211_90 : zfetch 211 90 = some (8, .goto (-72), 3) := by decide +kernel
theorem i211_93 : zfetch 211 93 = some (8, .iload_n 3, 1) := by decide +kernel
theorem i211_94 : zfetch 211 94 = some (8, .ireturn, 1) := by decide +kernel
theorem i212_0 : zfetch 212 0 = some (8, .aload_n 0, 1) := by decide +kernel
theorem i212_1 : zfetch 212 1 = some (8, .iload_n 1, 1) := by decide +kernel
theorem i212_2 : zfetch 212 2 = some (8, .invokevirtual 286, 3) := by decide +kernel
theorem i212_5 : zfetch 212 5 = some (8, .istore_n 2, 1) := by decide +kernel
theorem i212_6 : zfetch 212 6 = some (8, .iload_n 2, 1) := by decide +kernel
theorem i212_7 : zfetch 212 7 = some (8, .ifCond .eq 9, 3) := by decide +kernel
theorem i212_10 : zfetch 212 10 = some (8, .aload_n 0, 1) := by decide +kernel
theorem i212_11 : zfetch 212 11 = some (8, .iload_n 2, 1) := by decide +kernel
theorem i212_12 : zfetch 212 12 = some (8, .invokevirtual 58, 3) := by decide +kernel
theorem i212_15 : zfetch 212 15 = some (8, .ireturn, 1) := by decide +kernel
theorem i212_16 : zfetch 212 16 = some (8, .iconst 0, 1) := by decide +kernel
theorem i212_17 : zfetch 212 17 = some (8, .istore_n 3, 1) := by decide +kernel
theorem i212_18 : zfetch 212 18 = some (8, .iload_n 3, 1) := by decide +kernel
theorem i212_19 : zfetch 212 19 = some (8, .aload_n 0, 1) := by decide +kernel
theorem i212_20 : zfetch 212 20 = some (8, .getfield 40, 3) := by decide +kernel
theorem i212_23 : zfetch 212 23 = some (8, .iload_n 1, 1) := by decide +kernel
theorem i212_24 : zfetch 212 24 = some (8, .iaload, 1) := by decide +kernel
theorem i212_25 : zfetch 212 25 = some (8, .if_icmp .ge 39, 3) := by decide +kernel
theorem i212_28 : zfetch 212 28 = some (8, .iload_n 3, 1) := by decide +kernel
theorem i212_29 : zfetch 212 29 = some (8, .aload_n 0, 1) := by decide +kernel
theorem i212_30 : zfetch 212 30 = some (8, .getfield 7, 3) := by decide +kernel
theorem i212_33 : zfetch 212 33 = some (8, .iconst 4, 1) := by decide +kernel
theorem i212_34 : zfetch 212 34 = some (8, .iaload, 1) := by decide +kernel
theorem i212_35 : zfetch 212 35 = some (8, .if_icmp .ge 29, 3) := by decide +kernel
theorem i212_38 : zfetch 212 38 = some (8, .aload_n 0, 1) := by decide +kernel
theorem i212_39 : zfetch 212 39 = some (8, .getfield 43, 3) := by decide +kernel
theorem i212_42 : zfetch 212 42 = some (8, .bipush 24, 2) := by decide +kernel
theorem i212_44 : zfetch 212 44 = some (8, .iload_n 1, 1) := by decide +kernel
theorem i212_45 : zfetch 212 45 = some (8, .imul, 1) := by decide +kernel
theorem i212_46 : zfetch 212 46 = some (8, .iload_n 3, 1) := by decide +kernel
theorem i212_47 : zfetch 212 47 = some (8, .iadd, 1) := by decide +kernel
theorem i212_48 : zfetch 212 48 = some (8, .iaload, 1) := by decide +kernel
theorem i212_49 : zfetch 212 49 = some (8, .aload_n 0, 1) := by decide +kernel
theorem i212_50 : zfetch 212 50 = some (8, .iload_n 3, 1) := by decide +kernel
theorem i212_51 : zfetch 212 51 = some (8, .iconst 3, 1) := by decide +kernel
theorem i212_52 : zfetch 212 52 = some (8, .invokevirtual 54, 3) := by decide +kernel
theorem i212_55 : zfetch 212 55 = some (8, .if_icmp .ne 9, 3) := by decide +kernel
theorem i212_58 : zfetch 212 58 = some (8, .iinc 3 1, 3) := by decide +kernel
theorem i212_61 : zfetch 212 61 = some (8, .goto (-43), 3) := by decide +kernel
theorem i212_64 : zfetch 212 64 = some (8, .iload_n 3, 1) := by decide +kernel
theorem i212_65 : zfetch 212 65 = some (8, .ireturn, 1) := by decide +kernel
theorem i213_0 : zfetch 213 0 = some (8, .aload_n 0, 1) := by decide +kernel
theorem i213_1 : zfetch 213 1 = some (8, .getfield 7, 3) := by decide +kernel
theorem i213_4 : zfetch 213 4 = some (8, .aload_n 0, 1) := by decide +kernel
theorem i213_5 : zfetch 213 5 = some (8, .getfield 13, 3) := by decide +kernel
theorem i213_8 : zfetch 213 8 = some (8, .invokestatic 289, 3) := by decide +kernel
theorem i213_11 : zfetch 213 11 = some (8, .aload_n 0, 1) := by decide +kernel
theorem i213_12 : zfetch 213 12 = some (8, .dup, 1) := by decide +kernel
theorem i213_13 : zfetch 213 13 = some (8, .getfield 293, 3) := by decide +kernel
theorem i213_16 : zfetch 213 16 = some (8, .iconst 1, 1) := by decide +kernel
theorem i213_17 : zfetch 213 17 = some (8, .iadd, 1) := by decide +kernel
theorem i213_18 : zfetch 213 18 = some (8, .putfield 293, 3) := by decide +kernel
theorem i213_21 : zfetch 213 21 = some (8, .aload_n 0, 1) := by decide +kernel
theorem i213_22 : zfetch 213 22 = some (8, .getfield 293, 3) := by decide +kernel
theorem i213_25 : zfetch 213 25 = some (8, .ireturn, 1) := by decide +kernel
theorem i214_0 : zfetch 214 0 = some (8, .aload_n 0, 1) := by decide +kernel
theorem i214_1 : zfetch 214 1 = some (8, .getfield 293, 3) := by decide +kernel
theorem i214_4 : zfetch 214 4 = some (8, .ifCond .ne 9, 3) := by decide +kernel
theorem i214_7 : zfetch 214 7 = some (8, .aload_n 0, 1) := by decide +kernel
theorem i214_8 : zfetch 214 8 = some (8, .iconst 2, 1) := by decide +kernel
theorem i214_9 : zfetch 214 9 = some (8, .invokevirtual 58, 3) := by decide +kernel
theorem i214_12 : zfetch 214 12 = some (8, .ireturn, 1) := by decide +kernel
theorem i214_13 : zfetch 214 13 = some (8, .aload_n 0, 1) := by decide +kernel
theorem i214_14 : zfetch 214 14 = some (8, .getfield 13, 3) := by decide +kernel
theorem i214_17 : zfetch 214 17 = some (8, .aload_n 0, 1) := by decide +kernel
theorem i214_18 : zfetch 214 18 = some (8, .getfield 7, 3) := by decide +kernel
theorem i214_21 : zfetch 214 21 = some (8, .invokestatic 289, 3) := by decide +kernel
theorem i214_24 : zfetch 214 24 = some (8, .aload_n 0, 1) := by decide +kernel
theorem i214_25 : zfetch 214 25 = some (8, .getfield 7, 3) := by decide +kernel
theorem i214_28 : zfetch 214 28 = some (8, .iconst 0, 1) := by decide +kernel
theorem i214_29 : zfetch 214 29 = some (8, .iaload, 1) := by decide +kernel
theorem i214_30 : zfetch 214 30 = some (8, .ireturn, 1) := by decide +kernel
theorem i215_0 : zfetch 215 0 = some (8, .aload_n 0, 1) := by decide +kernel
theorem i215_1 : zfetch 215 1 = some (8, .getfield 7, 3) := by decide +kernel
theorem i215_4 : zfetch 215 4 = some (8, .iconst 3, 1) := by decide +kernel
theorem i215_5 : zfetch 215 5 = some (8, .iaload, 1) := by decide +kernel
theorem i215_6 : zfetch 215 6 = some (8, .bipush 24, 2) := by decide +kernel
theorem i215_8 : zfetch 215 8 = some (8, .if_icmp .ne 9, 3) := by decide +kernel
theorem i215_11 : zfetch 215 11 = some (8, .aload_n 0, 1) := by decide +kernel
theorem i215_12 : zfetch 215 12 = some (8, .iconst 4, 1) := by decide +kernel
theorem i215_13 : zfetch 215 13 = some (8, .invokevirtual 58, 3) := by decide +kernel
theorem i215_16 : zfetch 215 16 = some (8, .ireturn, 1) := by decide +kernel
theorem i215_17 : zfetch 215 17 = some (8, .aload_n 0, 1) := by decide +kernel
theorem i215_18 : zfetch 215 18 = some (8, .getfield 7, 3) := by decide +kernel
theorem i215_21 : zfetch 215 21 = some (8, .sipush 370, 3) := by decide +kernel
theorem i215_24 : zfetch 215 24 = some (8, .aload_n 0, 1) := by decide +kernel
theorem i215_25 : zfetch 215 25 = some (8, .getfield 7, 3) := by decide +kernel
theorem i215_28 : zfetch 215 28 = some (8, .iconst 3, 1) := by decide +kernel
theorem i215_29 : zfetch 215 29 = some (8, .iaload, 1) := by decide +kernel
theorem i215_30 : zfetch 215 30 = some (8, .iadd, 1) := by decide +kernel
theorem i215_31 : zfetch 215 31 = some (8, .iload_n 1, 1) := by decide +kernel
theorem i215_32 : zfetch 215 32 = some (8, .iastore, 1) := by decide +kernel
theorem i215_33 : zfetch 215 33 = some (8, .aload_n 0, 1) := by decide +kernel
theorem i215_34 : zfetch 215 34 = some (8, .getfield 7, 3) := by decide +kernel
theorem i215_37 : zfetch 215 37 = some (8, .iconst 3, 1) := by decide +kernel
theorem i215_38 : zfetch 215 38 = some (8, .dup2, 1) := by decide +kernel
theorem i215_39 : zfetch 215 39 = some (8, .iaload, 1) := by decide +kernel
theorem i215_40 : zfetch 215 40 = some (8, .iconst 1, 1) := by decide +kernel
theorem i215_41 : zfetch 215 41 = some (8, .iadd, 1) := by decide +kernel
theorem i215_42 : zfetch 215 42 = some (8, .iastore, 1) := by decide +kernel
theorem i215_43 : zfetch 215 43 = some (8, .aload_n 0, 1) := by decide +kernel
theorem i215_44 : zfetch 215 44 = some (8, .getfield 7, 3) := by decide +kernel
theorem i215_47 : zfetch 215 47 = some (8, .iconst 3, 1) := by decide +kernel
theorem i215_48 : zfetch 215 48 = some (8, .iaload, 1) := by decide +kernel
theorem i215_49 : zfetch 215 49 = some (8, .ireturn, 1) := by decide +kernel
theorem i216_0 : zfetch 216 0 = some (8, .aload_n 0, 1) := by decide +kernel
theorem i216_1 : zfetch 216 1 = some (8, .getfield 7, 3) := by decide +kernel
theorem i216_4 : zfetch 216 4 = some (8, .iconst 3, 1) := by decide +kernel
theorem i216_5 : zfetch 216 5 = some (8, .iaload, 1) := by decide +kernel
theorem i216_6 : zfetch 216 6 = some (8, .istore_n 1, 1) := by decide +kernel
theorem i216_7 : zfetch 216 7 = some (8, .aload_n 0, 1) := by decide +kernel
theorem i216_8 : zfetch 216 8 = some (8, .getfield 7, 3) := by decide +kernel
theorem i216_11 : zfetch 216 11 = some (8, .iconst 3, 1) := by decide +kernel
theorem i216_12 : zfetch 216 12 = some (8, .iconst 0, 1) := by decide +kernel
theorem i216_13 : zfetch 216 13 = some (8, .iastore, 1) := by decide +kernel
theorem i216_14 : zfetch 216 14 = some (8, .iconst 0, 1) := by decide +kernel
theorem i216_15 : zfetch 216 15 = some (8, .istore_n 2, 1) := by decide +kernel
theorem i216_16 : zfetch 216 16 = some (8, .iload_n 2, 1) := by decide +kernel
theorem i216_17 : zfetch 216 17 = some (8, .iload_n 1, 1) := by decide +kernel
theorem i216_18 : zfetch 216 18 = some (8, .if_icmp .ge 39, 3) := by decide +kernel
theorem i216_21 : zfetch 216 21 = some (8, .aload_n 0, 1) := by decide +kernel
theorem i216_22 : zfetch 216 22 = some (8, .iload_n 2, 1) := by decide +kernel
theorem i216_23 : zfetch 216 23 = some (8, .invokevirtual 194, 3) := by decide +kernel
theorem i216_26 : zfetch 216 26 = some (8, .ifCond .eq 21, 3) := by decide +kernel
theorem i216_29 : zfetch 216 29 = some (8, .aload_n 0, 1) := by decide +kernel
theorem i216_30 : zfetch 216 30 = some (8, .getfield 7, 3) := by decide +kernel
theorem i216_33 : zfetch 216 33 = some (8, .sipush 370, 3) := by decide +kernel
theorem i216_36 : zfetch 216 36 = some (8, .iload_n 2, 1) := by decide +kernel
theorem i216_37 : zfetch 216 37 = some (8, .iadd, 1) := by decide +kernel
theorem i216_38 : zfetch 216 38 = some (8, .iaload, 1) := by decide +kernel
theorem i216_39 : zfetch 216 39 = some (8, .aload_n 0, 1) := by decide +kernel
theorem i216_40 : zfetch 216 40 = some (8, .iload_n 2, 1) := by decide +kernel
theorem i216_41 : zfetch 216 41 = some (8, .invokevirtual 181, 3) := by decide +kernel
theorem i216_44 : zfetch 216 44 = some (8, .if_icmp .eq 7, 3) := by decide +kernel
theorem i216_47 : zfetch 216 47 = some (8, .iconst 1, 1) := by decide +kernel
theorem i216_48 : zfetch 216 48 = some (8, .iload_n 2, 1) := by decide +kernel
theorem i216_49 : zfetch 216 49 = some (8, .iadd, 1) := by decide +kernel
theorem i216_50 : zfetch 216 50 = some (8, .ireturn, 1) := by decide +kernel
theorem i216_51 : zfetch 216 51 = some (8, .iinc 2 1, 3) := by decide +kernel
theorem i216_54 : zfetch 216 54 = some (8, .goto (-38), 3) := by decide +kernel
theorem i216_57 : zfetch 216 57 = some (8, .iconst 0, 1) := by decide +kernel
theorem i216_58 : zfetch 216 58 = some (8, .ireturn, 1) := by decide +kernel
theorem i217_0 : zfetch 217 0 = some (8, .iload_n 1, 1) := by decide +kernel
theorem i217_1 : zfetch 217 1 = some (8, .tableswitch 119 0 9 #[55, 62, 69, 76, 81, 87, 93, 100, 107, 112], 55) := by decide +kernel
theorem i217_56 : zfetch 217 56 = some (8, .aload_n 0, 1) := by decide +kernel
theorem i217_57 : zfetch 217 57 = some (8, .getfield 7, 3) := by decide +kernel
theorem i217_60 : zfetch 217 60 = some (8, .iconst 4, 1) := by decide +kernel
theorem i217_61 : zfetch 217 61 = some (8, .iaload, 1) := by decide +kernel
theorem i217_62 : zfetch 217 62 = some (8, .ireturn, 1) := by decide +kernel
theorem i217_63 : zfetch 217 63 = some (8, .aload_n 0, 1) := by decide +kernel
theorem i217_64 : zfetch 217 64 = some (8, .getfield 7, 3) := by decide +kernel
theorem i217_67 : zfetch 217 67 = some (8, .iconst 0, 1) := by decide +kernel
theorem i217_68 : zfetch 217 68 = some (8, .iaload, 1) := by decide +kernel
theorem i217_69 : zfetch 217 69 = some (8, .ireturn, 1) := by decide +kernel
theorem i217_70 : zfetch 217 70 = some (8, .aload_n 0, 1) := by decide +kernel
theorem i217_71 : zfetch 217 71 = some (8, .getfield 7, 3) := by decide +kernel
theorem i217_74 : zfetch 217 74 = some (8, .iconst 5, 1) := by decide +kernel
theorem i217_75 : zfetch 217 75 = some (8, .iaload, 1) := by decide +kernel
theorem i217_76 : zfetch 217 76 = some (8, .ireturn, 1) := by decide +kernel
theorem i217_77 : zfetch 217 77 = some (8, .aload_n 0, 1) := by decide +kernel
theorem i217_78 : zfetch 217 78 = some (8, .invokevirtual 240, 3) := by decide +kernel
theorem i217_81 : zfetch 217 81 = some (8, .ireturn, 1) := by decide +kernel
theorem i217_82 : zfetch 217 82 = some (8, .aload_n 0, 1) := by decide +kernel
theorem i217_83 : zfetch 217 83 = some (8, .iconst 4, 1) := by decide +kernel
theorem i217_84 : zfetch 217 84 = some (8, .invokevirtual 296, 3) := by decide +kernel
theorem i217_87 : zfetch 217 87 = some (8, .ireturn, 1) := by decide +kernel
theorem i217_88 : zfetch 217 88 = some (8, .aload_n 0, 1) := by decide +kernel
theorem i217_89 : zfetch 217 89 = some (8, .iconst 5, 1) := by decide +kernel
theorem i217_90 : zfetch 217 90 = some (8, .invokevirtual 296, 3) := by decide +kernel
theorem i217_93 : zfetch 217 93 = some (8, .ireturn, 1) := by decide +kernel
theorem i217_94 : zfetch 217 94 = some (8, .aload_n 0, 1) := by decide +kernel
theorem i217_95 : zfetch 217 95 = some (8, .getfield 7, 3) := by decide +kernel
theorem i217_98 : zfetch 217 98 = some (8, .iconst 2, 1) := by decide +kernel
theorem i217_99 : zfetch 217 99 = some (8, .iaload, 1) := by decide +kernel
theorem i217_100 : zfetch 217 100 = some (8, .ireturn, 1) := by decide +kernel
theorem i217_101 : zfetch 217 101 = some (8, .aload_n 0, 1) := by decide +kernel
theorem i217_102 : zfetch 217 102 = some (8, .getfield 7, 3) := by decide +kernel
theorem i217_105 : zfetch 217 105 = some (8, .iconst 3, 1) := by decide +kernel
theorem i217_106 : zfetch 217 106 = some (8, .iaload, 1) := by decide +kernel
theorem i217_107 : zfetch 217 107 = some (8, .ireturn, 1) := by decide +kernel
theorem i217_108 : zfetch 217 108 = some (8, .aload_n 0, 1) := by decide +kernel
theorem i217_109 : zfetch 217 109 = some (8, .getfield 255, 3) := by decide +kernel
theorem i217_112 : zfetch 217 112 = some (8, .ireturn, 1) := by decide +kernel
theorem i217_113 : zfetch 217 113 = some (8, .aload_n 0, 1) := by decide +kernel
theorem i217_114 : zfetch 217 114 = some (8, .getfield 7, 3) := by decide +kernel
theorem i217_117 : zfetch 217 117 = some (8, .iconst 1, 1) := by decide +kernel
theorem i217_118 : zfetch 217 118 = some (8, .iaload, 1) := by decide +kernel
theorem i217_119 : zfetch 217 119 = some (8, .ireturn, 1) := by decide +kernel
theorem i217_120 : zfetch 217 120 = some (8, .aload_n 0, 1) := by decide +kernel
theorem i217_121 : zfetch 217 121 = some (8, .iconst 1, 1) := by decide +kernel
theorem i217_122 : zfetch 217 122 = some (8, .invokevirtual 58, 3) := by decide +kernel
theorem i217_125 : zfetch 217 125 = some (8, .ireturn, 1) := by decide +kernel
theorem i218_0 : zfetch 218 0 = some (8, .iload_n 1, 1) := by decide +kernel
theorem i218_1 : zfetch 218 1 = some (8, .iconst 1, 1) := by decide +kernel
theorem i218_2 : zfetch 218 2 = some (8, .bipush 6, 2) := by decide +kernel
theorem i218_4 : zfetch 218 4 = some (8, .invokestatic 50, 3) := by decide +kernel
theorem i218_7 : zfetch 218 7 = some (8, .ifCond .eq 12, 3) := by decide +kernel
theorem i218_10 : zfetch 218 10 = some (8, .aload_n 0, 1) := by decide +kernel
theorem i218_11 : zfetch 218 11 = some (8, .getfield 22, 3) := by decide +kernel
theorem i218_14 : zfetch 218 14 = some (8, .iload_n 1, 1) := by decide +kernel
theorem i218_15 : zfetch 218 15 = some (8, .iaload, 1) := by decide +kernel
theorem i218_16 : zfetch 218 16 = some (8, .goto 8, 3) := by decide +kernel
theorem i218_19 : zfetch 218 19 = some (8, .aload_n 0, 1) := by decide +kernel
theorem i218_20 : zfetch 218 20 = some (8, .iconst 1, 1) := by decide +kernel
theorem i218_21 : zfetch 218 21 = some (8, .invokevirtual 58, 3) := by decide +kernel
theorem i218_24 : zfetch 218 24 = some (8, .ireturn, 1) := by decide +kernel
theorem i219_0 : zfetch 219 0 = some (10, .iload_n 0, 1) := by decide +kernel
theorem i219_1 : zfetch 219 1 = some (10, .iload_n 0, 1) := by decide +kernel
theorem i219_2 : zfetch 219 2 = some (10, .iconst 1, 1) := by decide +kernel
theorem i219_3 : zfetch 219 3 = some (10, .iushr, 1) := by decide +kernel
theorem i219_4 : zfetch 219 4 = some (10, .ldc_w 265, 3) := by decide +kernel
theorem i219_7 : zfetch 219 7 = some (10, .iand, 1) := by decide +kernel
theorem i219_8 : zfetch 219 8 = some (10, .isub, 1) := by decide +kernel
theorem i219_9 : zfetch 219 9 = some (10, .istore_n 0, 1) := by decide +kernel
theorem i219_10 : zfetch 219 10 = some (10, .iload_n 0, 1) := by decide +kernel
theorem i219_11 : zfetch 219 11 = some (10, .ldc_w 266, 3) := by decide +kernel
theorem i219_14 : zfetch 219 14 = some (10, .iand, 1) := by decide +kernel
theorem i219_15 : zfetch 219 15 = some (10, .iload_n 0, 1) := by decide +kernel
theorem i219_16 : zfetch 219 16 = some (10, .iconst 2, 1) := by decide +kernel
theorem i219_17 : zfetch 219 17 = some (10, .iushr, 1) := by decide +kernel
theorem i219_18 : zfetch 219 18 = some (10, .ldc_w 266, 3) := by decide +kernel
theorem i219_21 : zfetch 219 21 = some (10, .iand, 1) := by decide +kernel
theorem i219_22 : zfetch 219 22 = some (10, .iadd, 1) := by decide +kernel
theorem i219_23 : zfetch 219 23 = some (10, .istore_n 0, 1) := by decide +kernel
theorem i219_24 : zfetch 219 24 = some (10, .iload_n 0, 1) := by decide +kernel
theorem i219_25 : zfetch 219 25 = some (10, .iload_n 0, 1) := by decide +kernel
theorem i219_26 : zfetch 219 26 = some (10, .iconst 4, 1) := by decide +kernel
theorem i219_27 : zfetch 219 27 = some (10, .iushr, 1) := by decide +kernel
theorem i219_28 : zfetch 219 28 = some (10, .iadd, 1) := by decide +kernel
theorem i219_29 : zfetch 219 29 = some (10, .ldc_w 267, 3) := by decide +kernel
theorem i219_32 : zfetch 219 32 = some (10, .iand, 1) := by decide +kernel
theorem i219_33 : zfetch 219 33 = some (10, .istore_n 0, 1) := by decide +kernel
theorem i219_34 : zfetch 219 34 = some (10, .iload_n 0, 1) := by decide +kernel
theorem i219_35 : zfetch 219 35 = some (10, .iload_n 0, 1) := by decide +kernel
theorem i219_36 : zfetch 219 36 = some (10, .bipush 8, 2) := by decide +kernel
theorem i219_38 : zfetch 219 38 = some (10, .iushr, 1) := by decide +kernel
theorem i219_39 : zfetch 219 39 = some (10, .iadd, 1) := by decide +kernel
theorem i219_40 : zfetch 219 40 = some (10, .istore_n 0, 1) := by decide +kernel
theorem i219_41 : zfetch 219 41 = some (10, .iload_n 0, 1) := by decide +kernel
theorem i219_42 : zfetch 219 42 = some (10, .iload_n 0, 1) := by decide +kernel
theorem i219_43 : zfetch 219 43 = some (10, .bipush 16, 2) := by decide +kernel
theorem i219_45 : zfetch 219 45 = some (10, .iushr, 1) := by decide +kernel
theorem i219_46 : zfetch 219 46 = some (10, .iadd, 1) := by decide +kernel
theorem i219_47 : zfetch 219 47 = some (10, .istore_n 0, 1) := by decide +kernel
theorem i219_48 : zfetch 219 48 = some (10, .iload_n 0, 1) := by decide +kernel
theorem i219_49 : zfetch 219 49 = some (10, .bipush 63, 2) := by decide +kernel
theorem i219_51 : zfetch 219 51 = some (10, .iand, 1) := by decide +kernel
theorem i219_52 : zfetch 219 52 = some (10, .ireturn, 1) := by decide +kernel
theorem i220_0 : zfetch 220 0 = some (11, .iload_n 0, 1) := by decide +kernel
theorem i220_1 : zfetch 220 1 = some (11, .iload_n 1, 1) := by decide +kernel
theorem i220_2 : zfetch 220 2 = some (11, .irem, 1) := by decide +kernel
theorem i220_3 : zfetch 220 3 = some (11, .istore_n 2, 1) := by decide +kernel
theorem i220_4 : zfetch 220 4 = some (11, .iload_n 0, 1) := by decide +kernel
theorem i220_5 : zfetch 220 5 = some (11, .iload_n 1, 1) := by decide +kernel
theorem i220_6 : zfetch 220 6 = some (11, .ixor, 1) := by decide +kernel
theorem i220_7 : zfetch 220 7 = some (11, .ifCond .ge 11, 3) := by decide +kernel
theorem i220_10 : zfetch 220 10 = some (11, .iload_n 2, 1) := by decide +kernel
theorem i220_11 : zfetch 220 11 = some (11, .ifCond .eq 7, 3) := by decide +kernel
theorem i220_14 : zfetch 220 14 = some (11, .iload_n 2, 1) := by decide +kernel
theorem i220_15 : zfetch 220 15 = some (11, .iload_n 1, 1) := by decide +kernel
theorem i220_16 : zfetch 220 16 = some (11, .iadd, 1) := by decide +kernel
theorem i220_17 : zfetch 220 17 = some (11, .ireturn, 1) := by decide +kernel
theorem i220_18 : zfetch 220 18 = some (11, .iload_n 2, 1) := by decide +kernel
theorem i220_19 : zfetch 220 19 = some (11, .ireturn, 1) := by decide +kernel
theorem i221_0 : zfetch 221 0 = some (11, .iload_n 0, 1) := by decide +kernel
theorem i221_1 : zfetch 221 1 = some (11, .ifCond .ge 8, 3) := by decide +kernel
theorem i221_4 : zfetch 221 4 = some (11, .iload_n 0, 1) := by decide +kernel
theorem i221_5 : zfetch 221 5 = some (11, .ineg, 1) := by decide +kernel
theorem i221_6 : zfetch 221 6 = some (11, .goto 4, 3) := by decide +kernel
theorem i221_9 : zfetch 221 9 = some (11, .iload_n 0, 1) := by decide +kernel
theorem i221_10 : zfetch 221 10 = some (11, .ireturn, 1) := by decide +kernel
theorem i222_0 : zfetch 222 0 = some (11, .iload_n 0, 1) := by decide +kernel
theorem i222_1 : zfetch 222 1 = some (11, .iload_n 1, 1) := by decide +kernel
theorem i222_2 : zfetch 222 2 = some (11, .if_icmp .lt 7, 3) := by decide +kernel
theorem i222_5 : zfetch 222 5 = some (11, .iload_n 0, 1) := by decide +kernel
theorem i222_6 : zfetch 222 6 = some (11, .goto 4, 3) := by decide +kernel
theorem i222_9 : zfetch 222 9 = some (11, .iload_n 1, 1) := by decide +kernel
theorem i222_10 : zfetch 222 10 = some (11, .ireturn, 1) := by decide +kernel
theorem i223_0 : zfetch 223 0 = some (11, .iload_n 0, 1) := by decide +kernel
theorem i223_1 : zfetch 223 1 = some (11, .iload_n 1, 1) := by decide +kernel
theorem i223_2 : zfetch 223 2 = some (11, .if_icmp .gt 7, 3) := by decide +kernel
theorem i223_5 : zfetch 223 5 = some (11, .iload_n 0, 1) := by decide +kernel
theorem i223_6 : zfetch 223 6 = some (11, .goto 4, 3) := by decide +kernel
theorem i223_9 : zfetch 223 9 = some (11, .iload_n 1, 1) := by decide +kernel
theorem i223_10 : zfetch 223 10 = some (11, .ireturn, 1) := by decide +kernel
theorem i224_16 : zfetch 224 16 = some (9, .iconst 0, 1) := by decide +kernel
theorem i224_17 : zfetch 224 17 = some (9, .istore_n 3, 1) := by decide +kernel
theorem i224_18 : zfetch 224 18 = some (9, .iload_n 3, 1) := by decide +kernel
theorem i224_19 : zfetch 224 19 = some (9, .aload_n 0, 1) := by decide +kernel
theorem i224_20 : zfetch 224 20 = some (9, .arraylength, 1) := by decide +kernel
theorem i224_21 : zfetch 224 21 = some (9, .bipush 6, 2) := by decide +kernel
theorem i224_23 : zfetch 224 23 = some (9, .isub, 1) := by decide +kernel
theorem i224_24 : zfetch 224 24 = some (9, .if_icmp .gt 1447, 3) := by decide +kernel
theorem i224_27 : zfetch 224 27 = some (9, .aload_n 0, 1) := by decide +kernel
theorem i224_28 : zfetch 224 28 = some (9, .iload_n 3, 1) := by decide +kernel
theorem i224_29 : zfetch 224 29 = some (9, .iaload, 1) := by decide +kernel
theorem i224_30 : zfetch 224 30 = some (9, .bipush 63, 2) := by decide +kernel
theorem i224_32 : zfetch 224 32 = some (9, .iand, 1) := by decide +kernel
theorem i224_33 : zfetch 224 33 = some (9, .tableswitch 1432 0 40 #[179, 232, 265, 298, 331, 364, 387, 430, 453, 516, 539, 562, 615, 638, 661, 684, 707, 730, 763, 786, 809, 822, 855, 878, 911, 944, 977, 1020, 1063, 1106, 1129, 1172, 1215, 1278, 1301, 1324, 1337, 1350, 1373, 1386, 1409], 179) := by decide +kernel
theorem i224_212 : zfetch 224 212 = some (9, .aload_n 1, 1) := by decide +kernel
theorem i224_213 : zfetch 224 213 = some (9, .aload_n 0, 1) := by decide +kernel
theorem i224_214 : zfetch 224 214 = some (9, .iload_n 3, 1) := by decide +kernel
theorem i224_215 : zfetch 224 215 = some (9, .iconst 1, 1) := by decide +kernel
theorem i224_216 : zfetch 224 216 = some (9, .iadd, 1) := by decide +kernel
theorem i224_217 : zfetch 224 217 = some (9, .iaload, 1) := by decide +kernel
theorem i224_218 : zfetch 224 218 = some (9, .aload_n 0, 1) := by decide +kernel
theorem i224_219 : zfetch 224 219 = some (9, .iload_n 3, 1) := by decide +kernel
theorem i224_220 : zfetch 224 220 = some (9, .iconst 2, 1) := by decide +kernel
theorem i224_221 : zfetch 224 221 = some (9, .iadd, 1) := by decide +kernel
theorem i224_222 : zfetch 224 222 = some (9, .iaload, 1) := by decide +kernel
theorem i224_223 : zfetch 224 223 = some (9, .aload_n 0, 1) := by decide +kernel
theorem i224_224 : zfetch 224 224 = some (9, .iload_n 3, 1) := by decide +kernel
theorem i224_225 : zfetch 224 225 = some (9, .iconst 3, 1) := by decide +kernel
theorem i224_226 : zfetch 224 226 = some (9, .iadd, 1) := by decide +kernel
theorem i224_227 : zfetch 224 227 = some (9, .iaload, 1) := by decide +kernel
theorem i224_228 : zfetch 224 228 = some (9, .aload_n 0, 1) := by decide +kernel
theorem i224_229 : zfetch 224 229 = some (9, .iload_n 3, 1) := by decide +kernel
theorem i224_230 : zfetch 224 230 = some (9, .iconst 4, 1) := by decide +kernel
theorem i224_231 : zfetch 224 231 = some (9, .iadd, 1) := by decide +kernel
theorem i224_232 : zfetch 224 232 = some (9, .iaload, 1) := by decide +kernel
theorem i224_233 : zfetch 224 233 = some (9, .invokevirtual 13, 3) := by decide +kernel
theorem i224_236 : zfetch 224 236 = some (9, .aload_n 2, 1) := by decide +kernel
theorem i224_237 : zfetch 224 237 = some (9, .aload_n 0, 1) := by decide +kernel
theorem i224_238 : zfetch 224 238 = some (9, .iload_n 3, 1) := by decide +kernel
theorem i224_239 : zfetch 224 239 = some (9, .iconst 1, 1) := by decide +kernel
theorem i224_240 : zfetch 224 240 = some (9, .iadd, 1) := by decide +kernel
theorem i224_241 : zfetch 224 241 = some (9, .iaload, 1) := by decide +kernel
theorem i224_242 : zfetch 224 242 = some (9, .aload_n 0, 1) := by decide +kernel
theorem i224_243 : zfetch 224 243 = some (9, .iload_n 3, 1) := by decide +kernel
theorem i224_244 : zfetch 224 244 = some (9, .iconst 2, 1) := by decide +kernel
theorem i224_245 : zfetch 224 245 = some (9, .iadd, 1) := by decide +kernel
theorem i224_246 : zfetch 224 246 = some (9, .iaload, 1) := by decide +kernel
theorem i224_247 : zfetch 224 247 = some (9, .aload_n 0, 1) := by decide +kernel
theorem i224_248 : zfetch 224 248 = some (9, .iload_n 3, 1) := by decide +kernel
theorem i224_249 : zfetch 224 249 = some (9, .iconst 3, 1) := by decide +kernel
theorem i224_250 : zfetch 224 250 = some (9, .iadd, 1) := by decide +kernel
theorem i224_251 : zfetch 224 251 = some (9, .iaload, 1) := by decide +kernel
theorem i224_252 : zfetch 224 252 = some (9, .aload_n 0, 1) := by decide +kernel
theorem i224_253 : zfetch 224 253 = some (9, .iload_n 3, 1) := by decide +kernel
theorem i224_254 : zfetch 224 254 = some (9, .iconst 4, 1) := by decide +kernel
theorem i224_255 : zfetch 224 255 = some (9, .iadd, 1) := by decide +kernel
theorem i224_256 : zfetch 224 256 = some (9, .iaload, 1) := by decide +kernel
theorem i224_257 : zfetch 224 257 = some (9, .invokevirtual 17, 3) := by decide +kernel
theorem i224_260 : zfetch 224 260 = some (9, .if_icmp .eq 1205, 3) := by decide +kernel
theorem i224_263 : zfetch 224 263 = some (9, .iconst 0, 1) := by decide +kernel
theorem i224_264 : zfetch 224 264 = some (9, .ireturn, 1) := by decide +kernel
theorem i224_265 : zfetch 224 265 = some (9, .aload_n 1, 1) := by decide +kernel
theorem i224_266 : zfetch 224 266 = some (9, .aload_n 0, 1) := by decide +kernel
theorem i224_267 : zfetch 224 267 = some (9, .iload_n 3, 1) := by decide +kernel
theorem i224_268 : zfetch 224 268 = some (9, .iconst 1, 1) := by decide +kernel
theorem i224_269 : zfetch 224 269 = some (9, .iadd, 1) := by decide +kernel
theorem i224_270 : zfetch 224 270 = some (9, .iaload, 1) := by decide +kernel
theorem i224_271 : zfetch 224 271 = some (9, .aload_n 0, 1) := by decide +kernel
theorem i224_272 : zfetch 224 272 = some (9, .iload_n 3, 1) := by decide +kernel
theorem i224_273 : zfetch 224 273 = some (9, .iconst 2, 1) := by decide +kernel
theorem i224_274 : zfetch 224 274 = some (9, .iadd, 1) := by decide +kernel
theorem i224_275 : zfetch 224 275 = some (9, .iaload, 1) := by decide +kernel
theorem i224_276 : zfetch 224 276 = some (9, .invokevirtual 18, 3) := by decide +kernel
theorem i224_279 : zfetch 224 279 = some (9, .aload_n 2, 1) := by decide +kernel
theorem i224_280 : zfetch 224 280 = some (9, .aload_n 0, 1) := by decide +kernel
theorem i224_281 : zfetch 224 281 = some (9, .iload_n 3, 1) := by decide +kernel
theorem i224_282 : zfetch 224 282 = some (9, .iconst 1, 1) := by decide +kernel
theorem i224_283 : zfetch 224 283 = some (9, .iadd, 1) := by decide +kernel
theorem i224_284 : zfetch 224 284 = some (9, .iaload, 1) := by decide +kernel
theorem i224_285 : zfetch 224 285 = some (9, .aload_n 0, 1) := by decide +kernel
theorem i224_286 : zfetch 224 286 = some (9, .iload_n 3, 1) := by decide +kernel
theorem i224_287 : zfetch 224 287 = some (9, .iconst 2, 1) := by decide +kernel
theorem i224_288 : zfetch 224 288 = some (9, .iadd, 1) := by decide +kernel
theorem i224_289 : zfetch 224 289 = some (9, .iaload, 1) := by decide +kernel
theorem i224_290 : zfetch 224 290 = some (9, .invokevirtual 22, 3) := by decide +kernel
theorem i224_293 : zfetch 224 293 = some (9, .if_icmp .eq 1172, 3) := by decide +kernel
theorem i224_296 : zfetch 224 296 = some (9, .iconst 0, 1) := by decide +kernel
theorem i224_297 : zfetch 224 297 = some (9, .ireturn, 1) := by decide +kernel
theorem i224_298 : zfetch 224 298 = some (9, .aload_n 1, 1) := by decide +kernel
theorem i224_299 : zfetch 224 299 = some (9, .aload_n 0, 1) := by decide +kernel
theorem i224_300 : zfetch 224 300 = some (9, .iload_n 3, 1) := by decide +kernel
theorem i224_301 : zfetch 224 301 = some (9, .iconst 1, 1) := by decide +kernel
theorem i224_302 : zfetch 224 302 = some (9, .iadd, 1) := by decide +kernel
theorem i224_303 : zfetch 224 303 = some (9, .iaload, 1) := by decide +kernel
theorem i224_304 : zfetch 224 304 = some (9, .aload_n 0, 1) := by decide +kernel
theorem i224_305 : zfetch 224 305 = some (9, .iload_n 3, 1) := by decide +kernel
theorem i224_306 : zfetch 224 306 = some (9, .iconst 2, 1) := by decide +kernel
theorem i224_307 : zfetch 224 307 = some (9, .iadd, 1) := by decide +kernel
theorem i224_308 : zfetch 224 308 = some (9, .iaload, 1) := by decide +kernel
theorem i224_309 : zfetch 224 309 = some (9, .invokevirtual 23, 3) := by decide +kernel
theorem i224_312 : zfetch 224 312 = some (9, .aload_n 2, 1) := by decide +kernel
theorem i224_313 : zfetch 224 313 = some (9, .aload_n 0, 1) := by decide +kernel
theorem i224_314 : zfetch 224 314 = some (9, .iload_n 3, 1) := by decide +kernel
theorem i224_315 : zfetch 224 315 = some (9, .iconst 1, 1) := by decide +kernel
theorem i224_316 : zfetch 224 316 = some (9, .iadd, 1) := by decide +kernel
theorem i224_317 : zfetch 224 317 = some (9, .iaload, 1) := by decide +kernel
theorem i224_318 : zfetch 224 318 = some (9, .aload_n 0, 1) := by decide +kernel
theorem i224_319 : zfetch 224 319 = some (9, .iload_n 3, 1) := by decide +kernel
theorem i224_320 : zfetch 224 320 = some (9, .iconst 2, 1) := by decide +kernel
theorem i224_321 : zfetch 224 321 = some (9, .iadd, 1) := by decide +kernel
theorem i224_322 : zfetch 224 322 = some (9, .iaload, 1) := by decide +kernel
theorem i224_323 : zfetch 224 323 = some (9, .invokevirtual 26, 3) := by decide +kernel
theorem i224_326 : zfetch 224 326 = some (9, .if_icmp .eq 1139, 3) := by decide +kernel
theorem i224_329 : zfetch 224 329 = some (9, .iconst 0, 1) := by decide +kernel
theorem i224_330 : zfetch 224 330 = some (9, .ireturn, 1) := by decide +kernel
theorem i224_331 : zfetch 224 331 = some (9, .aload_n 1, 1) := by decide +kernel
theorem i224_332 : zfetch 224 332 = some (9, .aload_n 0, 1) := by decide +kernel
theorem i224_333 : zfetch 224 333 = some (9, .iload_n 3, 1) := by decide +kernel
theorem i224_334 : zfetch 224 334 = some (9, .iconst 1, 1) := by decide +kernel
theorem i224_335 : zfetch 224 335 = some (9, .iadd, 1) := by decide +kernel
theorem i224_336 : zfetch 224 336 = some (9, .iaload, 1) := by decide +kernel
theorem i224_337 : zfetch 224 337 = some (9, .aload_n 0, 1) := by decide +kernel
theorem i224_338 : zfetch 224 338 = some (9, .iload_n 3, 1) := by decide +kernel
theorem i224_339 : zfetch 224 339 = some (9, .iconst 2, 1) := by decide +kernel
theorem i224_340 : zfetch 224 340 = some (9, .iadd, 1) := by decide +kernel
theorem i224_341 : zfetch 224 341 = some (9, .iaload, 1) := by decide +kernel
theorem i224_342 : zfetch 224 342 = some (9, .invokevirtual 27, 3) := by decide +kernel
theorem i224_345 : zfetch 224 345 = some (9, .aload_n 2, 1) := by decide +kernel
theorem i224_346 : zfetch 224 346 = some (9, .aload_n 0, 1) := by decide +kernel
theorem i224_347 : zfetch 224 347 = some (9, .iload_n 3, 1) := by decide +kernel
theorem i224_348 : zfetch 224 348 = some (9, .iconst 1, 1) := by decide +kernel
theorem i224_349 : zfetch 224 349 = some (9, .iadd, 1) := by decide +kernel
theorem i224_350 : zfetch 224 350 = some (9, .iaload, 1) := by decide +kernel
theorem i224_351 : zfetch 224 351 = some (9, .aload_n 0, 1) := by decide +kernel
theorem i224_352 : zfetch 224 352 = some (9, .iload_n 3, 1) := by decide +kernel
theorem i224_353 : zfetch 224 353 = some (9, .iconst 2, 1) := by decide +kernel
theorem i224_354 : zfetch 224 354 = some (9, .iadd, 1) := by decide +kernel
theorem i224_355 : zfetch 224 355 = some (9, .iaload, 1) := by decide +kernel
theorem i224_356 : zfetch 224 356 = some (9, .invokevirtual 30, 3) := by decide +kernel
theorem i224_359 : zfetch 224 359 = some (9, .if_icmp .eq 1106, 3) := by decide +kernel
theorem i224_362 : zfetch 224 362 = some (9, .iconst 0, 1) := by decide +kernel
theorem i224_363 : zfetch 224 363 = some (9, .ireturn, 1) := by decide +kernel
theorem i224_364 : zfetch 224 364 = some (9, .aload_n 1, 1) := by decide +kernel
theorem i224_365 : zfetch 224 365 = some (9, .aload_n 0, 1) := by decide +kernel
theorem i224_366 : zfetch 224 366 = some (9, .iload_n 3, 1) := by decide +kernel
theorem i224_367 : zfetch 224 367 = some (9, .iconst 1, 1) := by decide +kernel
theorem i224_368 : zfetch 224 368 = some (9, .iadd, 1) := by decide +kernel
theorem i224_369 : zfetch 224 369 = some (9, .iaload, 1) := by decide +kernel
theorem i224_370 : zfetch 224 370 = some (9, .aload_n 0, 1) := by decide +kernel
theorem i224_371 : zfetch 224 371 = some (9, .iload_n 3, 1) := by decide +kernel
theorem i224_372 : zfetch 224 372 = some (9, .iconst 2, 1) := by decide +kernel
theorem i224_373 : zfetch 224 373 = some (9, .iadd, 1) := by decide +kernel
theorem i224_374 : zfetch 224 374 = some (9, .iaload, 1) := by decide +kernel
theorem i224_375 : zfetch 224 375 = some (9, .invokevirtual 31, 3) := by decide +kernel
theorem i224_378 : zfetch 224 378 = some (9, .aload_n 2, 1) := by decide +kernel
theorem i224_379 : zfetch 224 379 = some (9, .aload_n 0, 1) := by decide +kernel
theorem i224_380 : zfetch 224 380 = some (9, .iload_n 3, 1) := by decide +kernel
theorem i224_381 : zfetch 224 381 = some (9, .iconst 1, 1) := by decide +kernel
theorem i224_382 : zfetch 224 382 = some (9, .iadd, 1) := by decide +kernel
theorem i224_383 : zfetch 224 383 = some (9, .iaload, 1) := by decide +kernel
theorem i224_384 : zfetch 224 384 = some (9, .aload_n 0, 1) := by decide +kernel
theorem i224_385 : zfetch 224 385 = some (9, .iload_n 3, 1) := by decide +kernel
theorem i224_386 : zfetch 224 386 = some (9, .iconst 2, 1) := by decide +kernel
theorem i224_387 : zfetch 224 387 = some (9, .iadd, 1) := by decide +kernel
theorem i224_388 : zfetch 224 388 = some (9, .iaload, 1) := by decide +kernel
theorem i224_389 : zfetch 224 389 = some (9, .invokevirtual 34, 3) := by decide +kernel
theorem i224_392 : zfetch 224 392 = some (9, .if_icmp .eq 1073, 3) := by decide +kernel
theorem i224_395 : zfetch 224 395 = some (9, .iconst 0, 1) := by decide +kernel
theorem i224_396 : zfetch 224 396 = some (9, .ireturn, 1) := by decide +kernel
theorem i224_397 : zfetch 224 397 = some (9, .aload_n 1, 1) := by decide +kernel
theorem i224_398 : zfetch 224 398 = some (9, .aload_n 0, 1) := by decide +kernel
theorem i224_399 : zfetch 224 399 = some (9, .iload_n 3, 1) := by decide +kernel
theorem i224_400 : zfetch 224 400 = some (9, .iconst 1, 1) := by decide +kernel
theorem i224_401 : zfetch 224 401 = some (9, .iadd, 1) := by decide +kernel
theorem i224_402 : zfetch 224 402 = some (9, .iaload, 1) := by decide +kernel
theorem i224_403 : zfetch 224 403 = some (9, .invokevirtual 35, 3) := by decide +kernel
theorem i224_406 : zfetch 224 406 = some (9, .aload_n 2, 1) := by decide +kernel
theorem i224_407 : zfetch 224 407 = some (9, .aload_n 0, 1) := by decide +kernel
theorem i224_408 : zfetch 224 408 = some (9, .iload_n 3, 1) := by decide +kernel
theorem i224_409 : zfetch 224 409 = some (9, .iconst 1, 1) := by decide +kernel
theorem i224_410 : zfetch 224 410 = some (9, .iadd, 1) := by decide +kernel
theorem i224_411 : zfetch 224 411 = some (9, .iaload, 1) := by decide +kernel
theorem i224_412 : zfetch 224 412 = some (9, .invokevirtual 39, 3) := by decide +kernel
theorem i224_415 : zfetch 224 415 = some (9, .if_icmp .eq 1050, 3) := by decide +kernel
theorem i224_418 : zfetch 224 418 = some (9, .iconst 0, 1) := by decide +kernel
theorem i224_419 : zfetch 224 419 = some (9, .ireturn, 1) := by decide +kernel
theorem i224_420 : zfetch 224 420 = some (9, .aload_n 1, 1) := by decide +kernel
theorem i224_421 : zfetch 224 421 = some (9, .aload_n 0, 1) := by decide +kernel
theorem i224_422 : zfetch 224 422 = some (9, .iload_n 3, 1) := by decide +kernel
theorem i224_423 : zfetch 224 423 = some (9, .iconst 1, 1) := by decide +kernel
theorem i224_424 : zfetch 224 424 = some (9, .iadd, 1) := by decide +kernel
theorem i224_425 : zfetch 224 425 = some (9, .iaload, 1) := by decide +kernel
theorem i224_426 : zfetch 224 426 = some (9, .aload_n 0, 1) := by decide +kernel
theorem i224_427 : zfetch 224 427 = some (9, .iload_n 3, 1) := by decide +kernel
theorem i224_428 : zfetch 224 428 = some (9, .iconst 2, 1) := by decide +kernel
theorem i224_429 : zfetch 224 429 = some (9, .iadd, 1) := by decide +kernel
theorem i224_430 : zfetch 224 430 = some (9, .iaload, 1) := by decide +kernel
theorem i224_431 : zfetch 224 431 = some (9, .aload_n 0, 1) := by decide +kernel
theorem i224_432 : zfetch 224 432 = some (9, .iload_n 3, 1) := by decide +kernel
theorem i224_433 : zfetch 224 433 = some (9, .iconst 3, 1) := by decide +kernel
theorem i224_434 : zfetch 224 434 = some (9, .iadd, 1) := by decide +kernel
theorem i224_435 : zfetch 224 435 = some (9, .iaload, 1) := by decide +kernel
theorem i224_436 : zfetch 224 436 = some (9, .invokevirtual 40, 3) := by decide +kernel
theorem i224_439 : zfetch 224 439 = some (9, .aload_n 2, 1) := by decide +kernel
theorem i224_440 : zfetch 224 440 = some (9, .aload_n 0, 1) := by decide +kernel
theorem i224_441 : zfetch 224 441 = some (9, .iload_n 3, 1) := by decide +kernel
theorem i224_442 : zfetch 224 442 = some (9, .iconst 1, 1) := by decide +kernel
theorem i224_443 : zfetch 224 443 = some (9, .iadd, 1) := by decide +kernel
theorem i224_444 : zfetch 224 444 = some (9, .iaload, 1) := by decide +kernel
theorem i224_445 : zfetch 224 445 = some (9, .aload_n 0, 1) := by decide +kernel
theorem i224_446 : zfetch 224 446 = some (9, .iload_n 3, 1) := by decide +kernel
theorem i224_447 : zfetch 224 447 = some (9, .iconst 2, 1) := by decide +kernel
theorem i224_448 : zfetch 224 448 = some (9, .iadd, 1) := by decide +kernel
theorem i224_449 : zfetch 224 449 = some (9, .iaload, 1) := by decide +kernel
theorem i224_450 : zfetch 224 450 = some (9, .aload_n 0, 1) := by decide +kernel
theorem i224_451 : zfetch 224 451 = some (9, .iload_n 3, 1) := by decide +kernel
theorem i224_452 : zfetch 224 452 = some (9, .iconst 3, 1) := by decide +kernel
theorem i224_453 : zfetch 224 453 = some (9, .iadd, 1) := by decide +kernel
theorem i224_454 : zfetch 224 454 = some (9, .iaload, 1) := by decide +kernel
theorem i224_455 : zfetch 224 455 = some (9, .invokevirtual 44, 3) := by decide +kernel
theorem i224_458 : zfetch 224 458 = some (9, .if_icmp .eq 1007, 3) := by decide +kernel
theorem i224_461 : zfetch 224 461 = some (9, .iconst 0, 1) := by decide +kernel
theorem i224_462 : zfetch 224 462 = some (9, .ireturn, 1) := by decide +kernel
theorem i224_463 : zfetch 224 463 = some (9, .aload_n 1, 1) := by decide +kernel
theorem i224_464 : zfetch 224 464 = some (9, .aload_n 0, 1) := by decide +kernel
theorem i224_465 : zfetch 224 465 = some (9, .iload_n 3, 1) := by decide +kernel
theorem i224_466 : zfetch 224 466 = some (9, .iconst 1, 1) := by decide +kernel
theorem i224_467 : zfetch 224 467 = some (9, .iadd, 1) := by decide +kernel
theorem i224_468 : zfetch 224 468 = some (9, .iaload, 1) := by decide +kernel
theorem i224_469 : zfetch 224 469 = some (9, .invokevirtual 45, 3) := by decide +kernel
theorem i224_472 : zfetch 224 472 = some (9, .aload_n 2, 1) := by decide +kernel
theorem i224_473 : zfetch 224 473 = some (9, .aload_n 0, 1) := by decide +kernel
theorem i224_474 : zfetch 224 474 = some (9, .iload_n 3, 1) := by decide +kernel
theorem i224_475 : zfetch 224 475 = some (9, .iconst 1, 1) := by decide +kernel
theorem i224_476 : zfetch 224 476 = some (9, .iadd, 1) := by decide +kernel
theorem i224_477 : zfetch 224 477 = some (9, .iaload, 1) := by decide +kernel
theorem i224_478 : zfetch 224 478 = some (9, .invokevirtual 48, 3) := by decide +kernel
theorem i224_481 : zfetch 224 481 = some (9, .if_icmp .eq 984, 3) := by decide +kernel
theorem i224_484 : zfetch 224 484 = some (9, .iconst 0, 1) := by decide +kernel
theorem i224_485 : zfetch 224 485 = some (9, .ireturn, 1) := by decide +kernel
theorem i224_486 : zfetch 224 486 = some (9, .aload_n 1, 1) := by decide +kernel
theorem i224_487 : zfetch 224 487 = some (9, .aload_n 0, 1) := by decide +kernel
theorem i224_488 : zfetch 224 488 = some (9, .iload_n 3, 1) := by decide +kernel
theorem i224_489 : zfetch 224 489 = some (9, .iconst 1, 1) := by decide +kernel
theorem i224_490 : zfetch 224 490 = some (9, .iadd, 1) := by decide +kernel
theorem i224_491 : zfetch 224 491 = some (9, .iaload, 1) := by decide +kernel
theorem i224_492 : zfetch 224 492 = some (9, .i2l, 1) := by decide +kernel
theorem i224_493 : zfetch 224 493 = some (9, .bipush 32, 2) := by decide +kernel
theorem i224_495 : zfetch 224 495 = some (9, .lshl, 1) := by decide +kernel
theorem i224_496 : zfetch 224 496 = some (9, .aload_n 0, 1) := by decide +kernel
theorem i224_497 : zfetch 224 497 = some (9, .iload_n 3, 1) := by decide +kernel
theorem i224_498 : zfetch 224 498 = some (9, .iconst 2, 1) := by decide +kernel
theorem i224_499 : zfetch 224 499 = some (9, .iadd, 1) := by decide +kernel
theorem i224_500 : zfetch 224 500 = some (9, .iaload, 1) := by decide +kernel
theorem i224_501 : zfetch 224 501 = some (9, .i2l, 1) := by decide +kernel
theorem i224_502 : zfetch 224 502 = some (9, .ldc2_w 49, 3) := by decide +kernel
theorem i224_505 : zfetch 224 505 = some (9, .land, 1) := by decide +kernel
theorem i224_506 : zfetch 224 506 = some (9, .lor, 1) := by decide +kernel
theorem i224_507 : zfetch 224 507 = some (9, .aload_n 0, 1) := by decide +kernel
theorem i224_508 : zfetch 224 508 = some (9, .iload_n 3, 1) := by decide +kernel
theorem i224_509 : zfetch 224 509 = some (9, .iconst 3, 1) := by decide +kernel
theorem i224_510 : zfetch 224 510 = some (9, .iadd, 1) := by decide +kernel
theorem i224_511 : zfetch 224 511 = some (9, .iaload, 1) := by decide +kernel
theorem i224_512 : zfetch 224 512 = some (9, .invokevirtual 51, 3) := by decide +kernel
theorem i224_515 : zfetch 224 515 = some (9, .aload_n 2, 1) := by decide +kernel
theorem i224_516 : zfetch 224 516 = some (9, .aload_n 0, 1) := by decide +kernel
theorem i224_517 : zfetch 224 517 = some (9, .iload_n 3, 1) := by decide +kernel
theorem i224_518 : zfetch 224 518 = some (9, .iconst 1, 1) := by decide +kernel
theorem i224_519 : zfetch 224 519 = some (9, .iadd, 1) := by decide +kernel
theorem i224_520 : zfetch 224 520 = some (9, .iaload, 1) := by decide +kernel
theorem i224_521 : zfetch 224 521 = some (9, .i2l, 1) := by decide +kernel
theorem i224_522 : zfetch 224 522 = some (9, .bipush 32, 2) := by decide +kernel
theorem i224_524 : zfetch 224 524 = some (9, .lshl, 1) := by decide +kernel
theorem i224_525 : zfetch 224 525 = some (9, .aload_n 0, 1) := by decide +kernel
theorem i224_526 : zfetch 224 526 = some (9, .iload_n 3, 1) := by decide +kernel
theorem i224_527 : zfetch 224 527 = some (9, .iconst 2, 1) := by decide +kernel
theorem i224_528 : zfetch 224 528 = some (9, .iadd, 1) := by decide +kernel
theorem i224_529 : zfetch 224 529 = some (9, .iaload, 1) := by decide +kernel
theorem i224_530 : zfetch 224 530 = some (9, .i2l, 1) := by decide +kernel
theorem i224_531 : zfetch 224 531 = some (9, .ldc2_w 49, 3) := by decide +kernel
theorem i224_534 : zfetch 224 534 = some (9, .land, 1) := by decide +kernel
theorem i224_535 : zfetch 224 535 = some (9, .lor, 1) := by decide +kernel
theorem i224_536 : zfetch 224 536 = some (9, .aload_n 0, 1) := by decide +kernel
theorem i224_537 : zfetch 224 537 = some (9, .iload_n 3, 1) := by decide +kernel
theorem i224_538 : zfetch 224 538 = some (9, .iconst 3, 1) := by decide +kernel
theorem i224_539 : zfetch 224 539 = some (9, .iadd, 1) := by decide +kernel
theorem i224_540 : zfetch 224 540 = some (9, .iaload, 1) := by decide +kernel
theorem i224_541 : zfetch 224 541 = some (9, .invokevirtual 55, 3) := by decide +kernel
theorem i224_544 : zfetch 224 544 = some (9, .if_icmp .eq 921, 3) := by decide +kernel
theorem i224_547 : zfetch 224 547 = some (9, .iconst 0, 1) := by decide +kernel
theorem i224_548 : zfetch 224 548 = some (9, .ireturn, 1) := by decide +kernel
theorem i224_549 : zfetch 224 549 = some (9, .aload_n 1, 1) := by decide +kernel
theorem i224_550 : zfetch 224 550 = some (9, .aload_n 0, 1) := by decide +kernel
theorem i224_551 : zfetch 224 551 = some (9, .iload_n 3, 1) := by decide +kernel
theorem i224_552 : zfetch 224 552 = some (9, .iconst 1, 1) := by decide +kernel
theorem i224_553 : zfetch 224 553 = some (9, .iadd, 1) := by decide +kernel
theorem i224_554 : zfetch 224 554 = some (9, .iaload, 1) := by decide +kernel
theorem i224_555 : zfetch 224 555 = some (9, .invokevirtual 56, 3) := by decide +kernel
theorem i224_558 : zfetch 224 558 = some (9, .aload_n 2, 1) := by decide +kernel
theorem i224_559 : zfetch 224 559 = some (9, .aload_n 0, 1) := by decide +kernel
theorem i224_560 : zfetch 224 560 = some (9, .iload_n 3, 1) := by decide +kernel
theorem i224_561 : zfetch 224 561 = some (9, .iconst 1, 1) := by decide +kernel
theorem i224_562 : zfetch 224 562 = some (9, .iadd, 1) := by decide +kernel
theorem i224_563 : zfetch 224 563 = some (9, .iaload, 1) := by decide +kernel
theorem i224_564 : zfetch 224 564 = some (9, .invokevirtual 59, 3) := by decide +kernel
theorem i224_567 : zfetch 224 567 = some (9, .if_icmp .eq 898, 3) := by decide +kernel
theorem i224_570 : zfetch 224 570 = some (9, .iconst 0, 1) := by decide +kernel
theorem i224_571 : zfetch 224 571 = some (9, .ireturn, 1) := by decide +kernel
theorem i224_572 : zfetch 224 572 = some (9, .aload_n 1, 1) := by decide +kernel
theorem i224_573 : zfetch 224 573 = some (9, .aload_n 0, 1) := by decide +kernel
theorem i224_574 : zfetch 224 574 = some (9, .iload_n 3, 1) := by decide +kernel
theorem i224_575 : zfetch 224 575 = some (9, .iconst 1, 1) := by decide +kernel
theorem i224_576 : zfetch 224 576 = some (9, .iadd, 1) := by decide +kernel
theorem i224_577 : zfetch 224 577 = some (9, .iaload, 1) := by decide +kernel
theorem i224_578 : zfetch 224 578 = some (9, .invokevirtual 60, 3) := by decide +kernel
theorem i224_581 : zfetch 224 581 = some (9, .aload_n 2, 1) := by decide +kernel
theorem i224_582 : zfetch 224 582 = some (9, .aload_n 0, 1) := by decide +kernel
theorem i224_583 : zfetch 224 583 = some (9, .iload_n 3, 1) := by decide +kernel
theorem i224_584 : zfetch 224 584 = some (9, .iconst 1, 1) := by decide +kernel
theorem i224_585 : zfetch 224 585 = some (9, .iadd, 1) := by decide +kernel
theorem i224_586 : zfetch 224 586 = some (9, .iaload, 1) := by decide +kernel
theorem i224_587 : zfetch 224 587 = some (9, .invokevirtual 63, 3) := by decide +kernel
theorem i224_590 : zfetch 224 590 = some (9, .if_icmp .eq 875, 3) := by decide +kernel
theorem i224_593 : zfetch 224 593 = some (9, .iconst 0, 1) := by decide +kernel
theorem i224_594 : zfetch 224 594 = some (9, .ireturn, 1) := by decide +kernel
theorem i224_595 : zfetch 224 595 = some (9, .aload_n 1, 1) := by decide +kernel
theorem i224_596 : zfetch 224 596 = some (9, .aload_n 0, 1) := by decide +kernel
theorem i224_597 : zfetch 224 597 = some (9, .iload_n 3, 1) := by decide +kernel
theorem i224_598 : zfetch 224 598 = some (9, .iconst 1, 1) := by decide +kernel
theorem i224_599 : zfetch 224 599 = some (9, .iadd, 1) := by decide +kernel
theorem i224_600 : zfetch 224 600 = some (9, .iaload, 1) := by decide +kernel
theorem i224_601 : zfetch 224 601 = some (9, .aload_n 0, 1) := by decide +kernel
theorem i224_602 : zfetch 224 602 = some (9, .iload_n 3, 1) := by decide +kernel
theorem i224_603 : zfetch 224 603 = some (9, .iconst 2, 1) := by decide +kernel
theorem i224_604 : zfetch 224 604 = some (9, .iadd, 1) := by decide +kernel
theorem i224_605 : zfetch 224 605 = some (9, .iaload, 1) := by decide +kernel
theorem i224_606 : zfetch 224 606 = some (9, .aload_n 0, 1) := by decide +kernel
theorem i224_607 : zfetch 224 607 = some (9, .iload_n 3, 1) := by decide +kernel
theorem i224_608 : zfetch 224 608 = some (9, .iconst 3, 1) := by decide +kernel
theorem i224_609 : zfetch 224 609 = some (9, .iadd, 1) := by decide +kernel
theorem i224_610 : zfetch 224 610 = some (9, .iaload, 1) := by decide +kernel
theorem i224_611 : zfetch 224 611 = some (9, .aload_n 0, 1) := by decide +kernel
theorem i224_612 : zfetch 224 612 = some (9, .iload_n 3, 1) := by decide +kernel
theorem i224_613 : zfetch 224 613 = some (9, .iconst 4, 1) := by decide +kernel
theorem i224_614 : zfetch 224 614 = some (9, .iadd, 1) := by decide +kernel
theorem i224_615 : zfetch 224 615 = some (9, .iaload, 1) := by decide +kernel
theorem i224_616 : zfetch 224 616 = some (9, .invokevirtual 64, 3) := by decide +kernel
theorem i224_619 : zfetch 224 619 = some (9, .aload_n 2, 1) := by decide +kernel
theorem i224_620 : zfetch 224 620 = some (9, .aload_n 0, 1) := by decide +kernel
theorem i224_621 : zfetch 224 621 = some (9, .iload_n 3, 1) := by decide +kernel
theorem i224_622 : zfetch 224 622 = some (9, .iconst 1, 1) := by decide +kernel
theorem i224_623 : zfetch 224 623 = some (9, .iadd, 1) := by decide +kernel
theorem i224_624 : zfetch 224 624 = some (9, .iaload, 1) := by decide +kernel
theorem i224_625 : zfetch 224 625 = some (9, .aload_n 0, 1) := by decide +kernel
theorem i224_626 : zfetch 224 626 = some (9, .iload_n 3, 1) := by decide +kernel
theorem i224_627 : zfetch 224 627 = some (9, .iconst 2, 1) := by decide +kernel
theorem i224_628 : zfetch 224 628 = some (9, .iadd, 1) := by decide +kernel
theorem i224_629 : zfetch 224 629 = some (9, .iaload, 1) := by decide +kernel
theorem i224_630 : zfetch 224 630 = some (9, .aload_n 0, 1) := by decide +kernel
theorem i224_631 : zfetch 224 631 = some (9, .iload_n 3, 1) := by decide +kernel
theorem i224_632 : zfetch 224 632 = some (9, .iconst 3, 1) := by decide +kernel
theorem i224_633 : zfetch 224 633 = some (9, .iadd, 1) := by decide +kernel
theorem i224_634 : zfetch 224 634 = some (9, .iaload, 1) := by decide +kernel
theorem i224_635 : zfetch 224 635 = some (9, .aload_n 0, 1) := by decide +kernel
theorem i224_636 : zfetch 224 636 = some (9, .iload_n 3, 1) := by decide +kernel
theorem i224_637 : zfetch 224 637 = some (9, .iconst 4, 1) := by decide +kernel
theorem i224_638 : zfetch 224 638 = some (9, .iadd, 1) := by decide +kernel
theorem i224_639 : zfetch 224 639 = some (9, .iaload, 1) := by decide +kernel
theorem i224_640 : zfetch 224 640 = some (9, .invokevirtual 67, 3) := by decide +kernel
theorem i224_643 : zfetch 224 643 = some (9, .if_icmp .eq 822, 3) := by decide +kernel
theorem i224_646 : zfetch 224 646 = some (9, .iconst 0, 1) := by decide +kernel
theorem i224_647 : zfetch 224 647 = some (9, .ireturn, 1) := by decide +kernel
theorem i224_648 : zfetch 224 648 = some (9, .aload_n 1, 1) := by decide +kernel
theorem i224_649 : zfetch 224 649 = some (9, .aload_n 0, 1) := by decide +kernel
theorem i224_650 : zfetch 224 650 = some (9, .iload_n 3, 1) := by decide +kernel
theorem i224_651 : zfetch 224 651 = some (9, .iconst 1, 1) := by decide +kernel
theorem i224_652 : zfetch 224 652 = some (9, .iadd, 1) := by decide +kernel
theorem i224_653 : zfetch 224 653 = some (9, .iaload, 1) := by decide +kernel
theorem i224_654 : zfetch 224 654 = some (9, .invokevirtual 68, 3) := by decide +kernel
theorem i224_657 : zfetch 224 657 = some (9, .aload_n 2, 1) := by decide +kernel
theorem i224_658 : zfetch 224 658 = some (9, .aload_n 0, 1) := by decide +kernel
theorem i224_659 : zfetch 224 659 = some (9, .iload_n 3, 1) := by decide +kernel
theorem i224_660 : zfetch 224 660 = some (9, .iconst 1, 1) := by decide +kernel
theorem i224_661 : zfetch 224 661 = some (9, .iadd, 1) := by decide +kernel
theorem i224_662 : zfetch 224 662 = some (9, .iaload, 1) := by decide +kernel
theorem i224_663 : zfetch 224 663 = some (9, .invokevirtual 71, 3) := by decide +kernel
theorem i224_666 : zfetch 224 666 = some (9, .if_icmp .eq 799, 3) := by decide +kernel
theorem i224_669 : zfetch 224 669 = some (9, .iconst 0, 1) := by decide +kernel
theorem i224_670 : zfetch 224 670 = some (9, .ireturn, 1) := by decide +kernel
theorem i224_671 : zfetch 224 671 = some (9, .aload_n 1, 1) := by decide +kernel
theorem i224_672 : zfetch 224 672 = some (9, .aload_n 0, 1) := by decide +kernel
theorem i224_673 : zfetch 224 673 = some (9, .iload_n 3, 1) := by decide +kernel
theorem i224_674 : zfetch 224 674 = some (9, .iconst 1, 1) := by decide +kernel
theorem i224_675 : zfetch 224 675 = some (9, .iadd, 1) := by decide +kernel
theorem i224_676 : zfetch 224 676 = some (9, .iaload, 1) := by decide +kernel
theorem i224_677 : zfetch 224 677 = some (9, .invokevirtual 72, 3) := by decide +kernel
theorem i224_680 : zfetch 224 680 = some (9, .aload_n 2, 1) := by decide +kernel
theorem i224_681 : zfetch 224 681 = some (9, .aload_n 0, 1) := by decide +kernel
theorem i224_682 : zfetch 224 682 = some (9, .iload_n 3, 1) := by decide +kernel
theorem i224_683 : zfetch 224 683 = some (9, .iconst 1, 1) := by decide +kernel
theorem i224_684 : zfetch 224 684 = some (9, .iadd, 1) := by decide +kernel
theorem i224_685 : zfetch 224 685 = some (9, .iaload, 1) := by decide +kernel
theorem i224_686 : zfetch 224 686 = some (9, .invokevirtual 75, 3) := by decide +kernel
theorem i224_689 : zfetch 224 689 = some (9, .if_icmp .eq 776, 3) := by decide +kernel
theorem i224_692 : zfetch 224 692 = some (9, .iconst 0, 1) := by decide +kernel
theorem i224_693 : zfetch 224 693 = some (9, .ireturn, 1) := by decide +kernel
theorem i224_694 : zfetch 224 694 = some (9, .aload_n 1, 1) := by decide +kernel
theorem i224_695 : zfetch 224 695 = some (9, .aload_n 0, 1) := by decide +kernel
theorem i224_696 : zfetch 224 696 = some (9, .iload_n 3, 1) := by decide +kernel
theorem i224_697 : zfetch 224 697 = some (9, .iconst 1, 1) := by decide +kernel
theorem i224_698 : zfetch 224 698 = some (9, .iadd, 1) := by decide +kernel
theorem i224_699 : zfetch 224 699 = some (9, .iaload, 1) := by decide +kernel
theorem i224_700 : zfetch 224 700 = some (9, .invokevirtual 76, 3) := by decide +kernel
theorem i224_703 : zfetch 224 703 = some (9, .aload_n 2, 1) := by decide +kernel
theorem i224_704 : zfetch 224 704 = some (9, .aload_n 0, 1) := by decide +kernel
theorem i224_705 : zfetch 224 705 = some (9, .iload_n 3, 1) := by decide +kernel
theorem i224_706 : zfetch 224 706 = some (9, .iconst 1, 1) := by decide +kernel
theorem i224_707 : zfetch 224 707 = some (9, .iadd, 1) := by decide +kernel
theorem i224_708 : zfetch 224 708 = some (9, .iaload, 1) := by decide +kernel
theorem i224_709 : zfetch 224 709 = some (9, .invokevirtual 79, 3) := by decide +kernel
theorem i224_712 : zfetch 224 712 = some (9, .if_icmp .eq 753, 3) := by decide +kernel
theorem i224_715 : zfetch 224 715 = some (9, .iconst 0, 1) := by decide +kernel
theorem i224_716 : zfetch 224 716 = some (9, .ireturn, 1) := by decide +kernel
theorem i224_717 : zfetch 224 717 = some (9, .aload_n 1, 1) := by decide +kernel
theorem i224_718 : zfetch 224 718 = some (9, .aload_n 0, 1) := by decide +kernel
theorem i224_719 : zfetch 224 719 = some (9, .iload_n 3, 1) := by decide +kernel
theorem i224_720 : zfetch 224 720 = some (9, .iconst 1, 1) := by decide +kernel
theorem i224_721 : zfetch 224 721 = some (9, .iadd, 1) := by decide +kernel
theorem i224_722 : zfetch 224 722 = some (9, .iaload, 1) := by decide +kernel
theorem i224_723 : zfetch 224 723 = some (9, .invokevirtual 80, 3) := by decide +kernel
theorem i224_726 : zfetch 224 726 = some (9, .aload_n 2, 1) := by decide +kernel
theorem i224_727 : zfetch 224 727 = some (9, .aload_n 0, 1) := by decide +kernel
theorem i224_728 : zfetch 224 728 = some (9, .iload_n 3, 1) := by decide +kernel
theorem i224_729 : zfetch 224 729 = some (9, .iconst 1, 1) := by decide +kernel
theorem i224_730 : zfetch 224 730 = some (9, .iadd, 1) := by decide +kernel
theorem i224_731 : zfetch 224 731 = some (9, .iaload, 1) := by decide +kernel
theorem i224_732 : zfetch 224 732 = some (9, .invokevirtual 83, 3) := by decide +kernel
theorem i224_735 : zfetch 224 735 = some (9, .if_icmp .eq 730, 3) := by decide +kernel
theorem i224_738 : zfetch 224 738 = some (9, .iconst 0, 1) := by decide +kernel
theorem i224_739 : zfetch 224 739 = some (9, .ireturn, 1) := by decide +kernel
theorem i224_740 : zfetch 224 740 = some (9, .aload_n 1, 1) := by decide +kernel
theorem i224_741 : zfetch 224 741 = some (9, .aload_n 0, 1) := by decide +kernel
theorem i224_742 : zfetch 224 742 = some (9, .iload_n 3, 1) := by decide +kernel
theorem i224_743 : zfetch 224 743 = some (9, .iconst 1, 1) := by decide +kernel
theorem i224_744 : zfetch 224 744 = some (9, .iadd, 1) := by decide +kernel
theorem i224_745 : zfetch 224 745 = some (9, .iaload, 1) := by decide +kernel
theorem i224_746 : zfetch 224 746 = some (9, .invokevirtual 84, 3) := by decide +kernel
theorem i224_749 : zfetch 224 749 = some (9, .aload_n 2, 1) := by decide +kernel
theorem i224_750 : zfetch 224 750 = some (9, .aload_n 0, 1) := by decide +kernel
theorem i224_751 : zfetch 224 751 = some (9, .iload_n 3, 1) := by decide +kernel
theorem i224_752 : zfetch 224 752 = some (9, .iconst 1, 1) := by decide +kernel
theorem i224_753 : zfetch 224 753 = some (9, .iadd, 1) := by decide +kernel
theorem i224_754 : zfetch 224 754 = some (9, .iaload, 1) := by decide +kernel
theorem i224_755 : zfetch 224 755 = some (9, .invokevirtual 87, 3) := by decide +kernel
theorem i224_758 : zfetch 224 758 = some (9, .if_icmp .eq 707, 3) := by decide +kernel
theorem i224_761 : zfetch 224 761 = some (9, .iconst 0, 1) := by decide +kernel
theorem i224_762 : zfetch 224 762 = some (9, .ireturn, 1) := by decide +kernel
theorem i224_763 : zfetch 224 763 = some (9, .aload_n 1, 1) := by decide +kernel
theorem i224_764 : zfetch 224 764 = some (9, .aload_n 0, 1) := by decide +kernel
theorem i224_765 : zfetch 224 765 = some (9, .iload_n 3, 1) := by decide +kernel
theorem i224_766 : zfetch 224 766 = some (9, .iconst 1, 1) := by decide +kernel
theorem i224_767 : zfetch 224 767 = some (9, .iadd, 1) := by decide +kernel
theorem i224_768 : zfetch 224 768 = some (9, .iaload, 1) := by decide +kernel
theorem i224_769 : zfetch 224 769 = some (9, .aload_n 0, 1) := by decide +kernel
theorem i224_770 : zfetch 224 770 = some (9, .iload_n 3, 1) := by decide +kernel
theorem i224_771 : zfetch 224 771 = some (9, .iconst 2, 1) := by decide +kernel
theorem i224_772 : zfetch 224 772 = some (9, .iadd, 1) := by decide +kernel
theorem i224_773 : zfetch 224 773 = some (9, .iaload, 1) := by decide +kernel
theorem i224_774 : zfetch 224 774 = some (9, .invokevirtual 88, 3) := by decide +kernel
theorem i224_777 : zfetch 224 777 = some (9, .aload_n 2, 1) := by decide +kernel
theorem i224_778 : zfetch 224 778 = some (9, .aload_n 0, 1) := by decide +kernel
theorem i224_779 : zfetch 224 779 = some (9, .iload_n 3, 1) := by decide +kernel
theorem i224_780 : zfetch 224 780 = some (9, .iconst 1, 1) := by decide +kernel
theorem i224_781 : zfetch 224 781 = some (9, .iadd, 1) := by decide +kernel
theorem i224_782 : zfetch 224 782 = some (9, .iaload, 1) := by decide +kernel
theorem i224_783 : zfetch 224 783 = some (9, .aload_n 0, 1) := by decide +kernel
theorem i224_784 : zfetch 224 784 = some (9, .iload_n 3, 1) := by decide +kernel
theorem i224_785 : zfetch 224 785 = some (9, .iconst 2, 1) := by decide +kernel
theorem i224_786 : zfetch 224 786 = some (9, .iadd, 1) := by decide +kernel
theorem i224_787 : zfetch 224 787 = some (9, .iaload, 1) := by decide +kernel
theorem i224_788 : zfetch 224 788 = some (9, .invokevirtual 91, 3) := by decide +kernel
theorem i224_791 : zfetch 224 791 = some (9, .if_icmp .eq 674, 3) := by decide +kernel
theorem i224_794 : zfetch 224 794 = some (9, .iconst 0, 1) := by decide +kernel
theorem i224_795 : zfetch 224 795 = some (9, .ireturn, 1) := by decide +kernel
theorem i224_796 : zfetch 224 796 = some (9, .aload_n 1, 1) := by decide +kernel
theorem i224_797 : zfetch 224 797 = some (9, .aload_n 0, 1) := by decide +kernel
theorem i224_798 : zfetch 224 798 = some (9, .iload_n 3, 1) := by decide +kernel
theorem i224_799 : zfetch 224 799 = some (9, .iconst 1, 1) := by decide +kernel
theorem i224_800 : zfetch 224 800 = some (9, .iadd, 1) := by decide +kernel
theorem i224_801 : zfetch 224 801 = some (9, .iaload, 1) := by decide +kernel
theorem i224_802 : zfetch 224 802 = some (9, .invokevirtual 92, 3) := by decide +kernel
theorem i224_805 : zfetch 224 805 = some (9, .aload_n 2, 1) := by decide +kernel
theorem i224_806 : zfetch 224 806 = some (9, .aload_n 0, 1) := by decide +kernel
theorem i224_807 : zfetch 224 807 = some (9, .iload_n 3, 1) := by decide +kernel
theorem i224_808 : zfetch 224 808 = some (9, .iconst 1, 1) := by decide +kernel
theorem i224_809 : zfetch 224 809 = some (9, .iadd, 1) := by decide +kernel
theorem i224_810 : zfetch 224 810 = some (9, .iaload, 1) := by decide +kernel
theorem i224_811 : zfetch 224 811 = some (9, .invokevirtual 95, 3) := by decide +kernel
theorem i224_814 : zfetch 224 814 = some (9, .if_icmp .eq 651, 3) := by decide +kernel
theorem i224_817 : zfetch 224 817 = some (9, .iconst 0, 1) := by decide +kernel
theorem i224_818 : zfetch 224 818 = some (9, .ireturn, 1) := by decide +kernel
theorem i224_819 : zfetch 224 819 = some (9, .aload_n 1, 1) := by decide +kernel
theorem i224_820 : zfetch 224 820 = some (9, .aload_n 0, 1) := by decide +kernel
theorem i224_821 : zfetch 224 821 = some (9, .iload_n 3, 1) := by decide +kernel
theorem i224_822 : zfetch 224 822 = some (9, .iconst 1, 1) := by decide +kernel
theorem i224_823 : zfetch 224 823 = some (9, .iadd, 1) := by decide +kernel
theorem i224_824 : zfetch 224 824 = some (9, .iaload, 1) := by decide +kernel
theorem i224_825 : zfetch 224 825 = some (9, .invokevirtual 96, 3) := by decide +kernel
theorem i224_828 : zfetch 224 828 = some (9, .aload_n 2, 1) := by decide +kernel
theorem i224_829 : zfetch 224 829 = some (9, .aload_n 0, 1) := by decide +kernel
theorem i224_830 : zfetch 224 830 = some (9, .iload_n 3, 1) := by decide +kernel
theorem i224_831 : zfetch 224 831 = some (9, .iconst 1, 1) := by decide +kernel
theorem i224_832 : zfetch 224 832 = some (9, .iadd, 1) := by decide +kernel
theorem i224_833 : zfetch 224 833 = some (9, .iaload, 1) := by decide +kernel
theorem i224_834 : zfetch 224 834 = some (9, .invokevirtual 99, 3) := by decide +kernel
theorem i224_837 : zfetch 224 837 = some (9, .if_icmp .eq 628, 3) := by decide +kernel
theorem i224_840 : zfetch 224 840 = some (9, .iconst 0, 1) := by decide +kernel
theorem i224_841 : zfetch 224 841 = some (9, .ireturn, 1) := by decide +kernel
theorem i224_842 : zfetch 224 842 = some (9, .aload_n 1, 1) := by decide +kernel
theorem i224_843 : zfetch 224 843 = some (9, .invokevirtual 100, 3) := by decide +kernel
theorem i224_846 : zfetch 224 846 = some (9, .aload_n 2, 1) := by decide +kernel
theorem i224_847 : zfetch 224 847 = some (9, .invokevirtual 104, 3) := by decide +kernel
theorem i224_850 : zfetch 224 850 = some (9, .if_icmp .eq 615, 3) := by decide +kernel
theorem i224_853 : zfetch 224 853 = some (9, .iconst 0, 1) := by decide +kernel
theorem i224_854 : zfetch 224 854 = some (9, .ireturn, 1) := by decide +kernel
theorem i224_855 : zfetch 224 855 = some (9, .aload_n 1, 1) := by decide +kernel
theorem i224_856 : zfetch 224 856 = some (9, .aload_n 0, 1) := by decide +kernel
theorem i224_857 : zfetch 224 857 = some (9, .iload_n 3, 1) := by decide +kernel
theorem i224_858 : zfetch 224 858 = some (9, .iconst 1, 1) := by decide +kernel
theorem i224_859 : zfetch 224 859 = some (9, .iadd, 1) := by decide +kernel
theorem i224_860 : zfetch 224 860 = some (9, .iaload, 1) := by decide +kernel
theorem i224_861 : zfetch 224 861 = some (9, .aload_n 0, 1) := by decide +kernel
theorem i224_862 : zfetch 224 862 = some (9, .iload_n 3, 1) := by decide +kernel
theorem i224_863 : zfetch 224 863 = some (9, .iconst 2, 1) := by decide +kernel
theorem i224_864 : zfetch 224 864 = some (9, .iadd, 1) := by decide +kernel
theorem i224_865 : zfetch 224 865 = some (9, .iaload, 1) := by decide +kernel
theorem i224_866 : zfetch 224 866 = some (9, .invokevirtual 105, 3) := by decide +kernel
theorem i224_869 : zfetch 224 869 = some (9, .aload_n 2, 1) := by decide +kernel
theorem i224_870 : zfetch 224 870 = some (9, .aload_n 0, 1) := by decide +kernel
theorem i224_871 : zfetch 224 871 = some (9, .iload_n 3, 1) := by decide +kernel
theorem i224_872 : zfetch 224 872 = some (9, .iconst 1, 1) := by decide +kernel
theorem i224_873 : zfetch 224 873 = some (9, .iadd, 1) := by decide +kernel
theorem i224_874 : zfetch 224 874 = some (9, .iaload, 1) := by decide +kernel
theorem i224_875 : zfetch 224 875 = some (9, .aload_n 0, 1) := by decide +kernel
theorem i224_876 : zfetch 224 876 = some (9, .iload_n 3, 1) := by decide +kernel
theorem i224_877 : zfetch 224 877 = some (9, .iconst 2, 1) := by decide +kernel
theorem i224_878 : zfetch 224 878 = some (9, .iadd, 1) := by decide +kernel
theorem i224_879 : zfetch 224 879 = some (9, .iaload, 1) := by decide +kernel
theorem i224_880 : zfetch 224 880 = some (9, .invokevirtual 108, 3) := by decide +kernel
theorem i224_883 : zfetch 224 883 = some (9, .if_icmp .eq 582, 3) := by decide +kernel
theorem i224_886 : zfetch 224 886 = some (9, .iconst 0, 1) := by decide +kernel
theorem i224_887 : zfetch 224 887 = some (9, .ireturn, 1) := by decide +kernel
theorem i224_888 : zfetch 224 888 = some (9, .aload_n 1, 1) := by decide +kernel
theorem i224_889 : zfetch 224 889 = some (9, .aload_n 0, 1) := by decide +kernel
theorem i224_890 : zfetch 224 890 = some (9, .iload_n 3, 1) := by decide +kernel
theorem i224_891 : zfetch 224 891 = some (9, .iconst 1, 1) := by decide +kernel
theorem i224_892 : zfetch 224 892 = some (9, .iadd, 1) := by decide +kernel
theorem i224_893 : zfetch 224 893 = some (9, .iaload, 1) := by decide +kernel
theorem i224_894 : zfetch 224 894 = some (9, .invokevirtual 109, 3) := by decide +kernel
theorem i224_897 : zfetch 224 897 = some (9, .aload_n 2, 1) := by decide +kernel
theorem i224_898 : zfetch 224 898 = some (9, .aload_n 0, 1) := by decide +kernel
theorem i224_899 : zfetch 224 899 = some (9, .iload_n 3, 1) := by decide +kernel
theorem i224_900 : zfetch 224 900 = some (9, .iconst 1, 1) := by decide +kernel
theorem i224_901 : zfetch 224 901 = some (9, .iadd, 1) := by decide +kernel
theorem i224_902 : zfetch 224 902 = some (9, .iaload, 1) := by decide +kernel
theorem i224_903 : zfetch 224 903 = some (9, .invokevirtual 112, 3) := by decide +kernel
theorem i224_906 : zfetch 224 906 = some (9, .if_icmp .eq 559, 3) := by decide +kernel
theorem i224_909 : zfetch 224 909 = some (9, .iconst 0, 1) := by decide +kernel
theorem i224_910 : zfetch 224 910 = some (9, .ireturn, 1) := by decide +kernel
theorem i224_911 : zfetch 224 911 = some (9, .aload_n 1, 1) := by decide +kernel
theorem i224_912 : zfetch 224 912 = some (9, .aload_n 0, 1) := by decide +kernel
theorem i224_913 : zfetch 224 913 = some (9, .iload_n 3, 1) := by decide +kernel
theorem i224_914 : zfetch 224 914 = some (9, .iconst 1, 1) := by decide +kernel
theorem i224_915 : zfetch 224 915 = some (9, .iadd, 1) := by decide +kernel
theorem i224_916 : zfetch 224 916 = some (9, .iaload, 1) := by decide +kernel
theorem i224_917 : zfetch 224 917 = some (9, .aload_n 0, 1) := by decide +kernel
theorem i224_918 : zfetch 224 918 = some (9, .iload_n 3, 1) := by decide +kernel
theorem i224_919 : zfetch 224 919 = some (9, .iconst 2, 1) := by decide +kernel
theorem i224_920 : zfetch 224 920 = some (9, .iadd, 1) := by decide +kernel
theorem i224_921 : zfetch 224 921 = some (9, .iaload, 1) := by decide +kernel
theorem i224_922 : zfetch 224 922 = some (9, .invokevirtual 113, 3) := by decide +kernel
theorem i224_925 : zfetch 224 925 = some (9, .aload_n 2, 1) := by decide +kernel
theorem i224_926 : zfetch 224 926 = some (9, .aload_n 0, 1) := by decide +kernel
theorem i224_927 : zfetch 224 927 = some (9, .iload_n 3, 1) := by decide +kernel
theorem i224_928 : zfetch 224 928 = some (9, .iconst 1, 1) := by decide +kernel
theorem i224_929 : zfetch 224 929 = some (9, .iadd, 1) := by decide +kernel
theorem i224_930 : zfetch 224 930 = some (9, .iaload, 1) := by decide +kernel
theorem i224_931 : zfetch 224 931 = some (9, .aload_n 0, 1) := by decide +kernel
theorem i224_932 : zfetch 224 932 = some (9, .iload_n 3, 1) := by decide +kernel
theorem i224_933 : zfetch 224 933 = some (9, .iconst 2, 1) := by decide +kernel
theorem i224_934 : zfetch 224 934 = some (9, .iadd, 1) := by decide +kernel
theorem i224_935 : zfetch 224 935 = some (9, .iaload, 1) := by decide +kernel
theorem i224_936 : zfetch 224 936 = some (9, .invokevirtual 116, 3) := by decide +kernel
theorem i224_939 : zfetch 224 939 = some (9, .if_icmp .eq 526, 3) := by decide +kernel
theorem i224_942 : zfetch 224 942 = some (9, .iconst 0, 1) := by decide +kernel
theorem i224_943 : zfetch 224 943 = some (9, .ireturn, 1) := by decide +kernel
theorem i224_944 : zfetch 224 944 = some (9, .aload_n 1, 1) := by decide +kernel
theorem i224_945 : zfetch 224 945 = some (9, .aload_n 0, 1) := by decide +kernel
theorem i224_946 : zfetch 224 946 = some (9, .iload_n 3, 1) := by decide +kernel
theorem i224_947 : zfetch 224 947 = some (9, .iconst 1, 1) := by decide +kernel
theorem i224_948 : zfetch 224 948 = some (9, .iadd, 1) := by decide +kernel
theorem i224_949 : zfetch 224 949 = some (9, .iaload, 1) := by decide +kernel
theorem i224_950 : zfetch 224 950 = some (9, .aload_n 0, 1) := by decide +kernel
theorem i224_951 : zfetch 224 951 = some (9, .iload_n 3, 1) := by decide +kernel
theorem i224_952 : zfetch 224 952 = some (9, .iconst 2, 1) := by decide +kernel
theorem i224_953 : zfetch 224 953 = some (9, .iadd, 1) := by decide +kernel
theorem i224_954 : zfetch 224 954 = some (9, .iaload, 1) := by decide +kernel
theorem i224_955 : zfetch 224 955 = some (9, .invokevirtual 117, 3) := by decide +kernel
theorem i224_958 : zfetch 224 958 = some (9, .aload_n 2, 1) := by decide +kernel
theorem i224_959 : zfetch 224 959 = some (9, .aload_n 0, 1) := by decide +kernel
theorem i224_960 : zfetch 224 960 = some (9, .iload_n 3, 1) := by decide +kernel
theorem i224_961 : zfetch 224 961 = some (9, .iconst 1, 1) := by decide +kernel
theorem i224_962 : zfetch 224 962 = some (9, .iadd, 1) := by decide +kernel
theorem i224_963 : zfetch 224 963 = some (9, .iaload, 1) := by decide +kernel
theorem i224_964 : zfetch 224 964 = some (9, .aload_n 0, 1) := by decide +kernel
theorem i224_965 : zfetch 224 965 = some (9, .iload_n 3, 1) := by decide +kernel
theorem i224_966 : zfetch 224 966 = some (9, .iconst 2, 1) := by decide +kernel
theorem i224_967 : zfetch 224 967 = some (9, .iadd, 1) := by decide +kernel
theorem i224_968 : zfetch 224 968 = some (9, .iaload, 1) := by decide +kernel
theorem i224_969 : zfetch 224 969 = some (9, .invokevirtual 120, 3) := by decide +kernel
theorem i224_972 : zfetch 224 972 = some (9, .if_icmp .eq 493, 3) := by decide +kernel
theorem i224_975 : zfetch 224 975 = some (9, .iconst 0, 1) := by decide +kernel
theorem i224_976 : zfetch 224 976 = some (9, .ireturn, 1) := by decide +kernel
theorem i224_977 : zfetch 224 977 = some (9, .aload_n 1, 1) := by decide +kernel
theorem i224_978 : zfetch 224 978 = some (9, .aload_n 0, 1) := by decide +kernel
theorem i224_979 : zfetch 224 979 = some (9, .iload_n 3, 1) := by decide +kernel
theorem i224_980 : zfetch 224 980 = some (9, .iconst 1, 1) := by decide +kernel
theorem i224_981 : zfetch 224 981 = some (9, .iadd, 1) := by decide +kernel
theorem i224_982 : zfetch 224 982 = some (9, .iaload, 1) := by decide +kernel
theorem i224_983 : zfetch 224 983 = some (9, .aload_n 0, 1) := by decide +kernel
theorem i224_984 : zfetch 224 984 = some (9, .iload_n 3, 1) := by decide +kernel
theorem i224_985 : zfetch 224 985 = some (9, .iconst 2, 1) := by decide +kernel
theorem i224_986 : zfetch 224 986 = some (9, .iadd, 1) := by decide +kernel
theorem i224_987 : zfetch 224 987 = some (9, .iaload, 1) := by decide +kernel
theorem i224_988 : zfetch 224 988 = some (9, .invokevirtual 121, 3) := by decide +kernel
theorem i224_991 : zfetch 224 991 = some (9, .aload_n 2, 1) := by decide +kernel
theorem i224_992 : zfetch 224 992 = some (9, .aload_n 0, 1) := by decide +kernel
theorem i224_993 : zfetch 224 993 = some (9, .iload_n 3, 1) := by decide +kernel
theorem i224_994 : zfetch 224 994 = some (9, .iconst 1, 1) := by decide +kernel
theorem i224_995 : zfetch 224 995 = some (9, .iadd, 1) := by decide +kernel
theorem i224_996 : zfetch 224 996 = some (9, .iaload, 1) := by decide +kernel
theorem i224_997 : zfetch 224 997 = some (9, .aload_n 0, 1) := by decide +kernel
theorem i224_998 : zfetch 224 998 = some (9, .iload_n 3, 1) := by decide +kernel
theorem i224_999 : zfetch 224 999 = some (9, .iconst 2, 1) := by decide +kernel
theorem i224_1000 : zfetch 224 1000 = some (9, .iadd, 1) := by decide +kernel
theorem i224_1001 : zfetch 224 1001 = some (9, .iaload, 1) := by decide +kernel
theorem i224_1002 : zfetch 224 1002 = some (9, .invokevirtual 124, 3) := by decide +kernel
theorem i224_1005 : zfetch 224 1005 = some (9, .if_icmp .eq 460, 3) := by decide +kernel
theorem i224_1008 : zfetch 224 1008 = some (9, .iconst 0, 1) := by decide +kernel
theorem i224_1009 : zfetch 224 1009 = some (9, .ireturn, 1) := by decide +kernel
theorem i224_1010 : zfetch 224 1010 = some (9, .aload_n 1, 1) := by decide +kernel
theorem i224_1011 : zfetch 224 1011 = some (9, .aload_n 0, 1) := by decide +kernel
theorem i224_1012 : zfetch 224 1012 = some (9, .iload_n 3, 1) := by decide +kernel
theorem i224_1013 : zfetch 224 1013 = some (9, .iconst 1, 1) := by decide +kernel
theorem i224_1014 : zfetch 224 1014 = some (9, .iadd, 1) := by decide +kernel
theorem i224_1015 : zfetch 224 1015 = some (9, .iaload, 1) := by decide +kernel
theorem i224_1016 : zfetch 224 1016 = some (9, .aload_n 0, 1) := by decide +kernel
theorem i224_1017 : zfetch 224 1017 = some (9, .iload_n 3, 1) := by decide +kernel
theorem i224_1018 : zfetch 224 1018 = some (9, .iconst 2, 1) := by decide +kernel
theorem i224_1019 : zfetch 224 1019 = some (9, .iadd, 1) := by decide +kernel
theorem i224_1020 : zfetch 224 1020 = some (9, .iaload, 1) := by decide +kernel
theorem i224_1021 : zfetch 224 1021 = some (9, .aload_n 0, 1) := by decide +kernel
theorem i224_1022 : zfetch 224 1022 = some (9, .iload_n 3, 1) := by decide +kernel
theorem i224_1023 : zfetch 224 1023 = some (9, .iconst 3, 1) := by decide +kernel
theorem i224_1024 : zfetch 224 1024 = some (9, .iadd, 1) := by decide +kernel
theorem i224_1025 : zfetch 224 1025 = some (9, .iaload, 1) := by decide +kernel
theorem i224_1026 : zfetch 224 1026 = some (9, .invokevirtual 125, 3) := by decide +kernel
theorem i224_1029 : zfetch 224 1029 = some (9, .aload_n 2, 1) := by decide +kernel
theorem i224_1030 : zfetch 224 1030 = some (9, .aload_n 0, 1) := by decide +kernel
theorem i224_1031 : zfetch 224 1031 = some (9, .iload_n 3, 1) := by decide +kernel
theorem i224_1032 : zfetch 224 1032 = some (9, .iconst 1, 1) := by decide +kernel
theorem i224_1033 : zfetch 224 1033 = some (9, .iadd, 1) := by decide +kernel
theorem i224_1034 : zfetch 224 1034 = some (9, .iaload, 1) := by decide +kernel
theorem i224_1035 : zfetch 224 1035 = some (9, .aload_n 0, 1) := by decide +kernel
theorem i224_1036 : zfetch 224 1036 = some (9, .iload_n 3, 1) := by decide +kernel
theorem i224_1037 : zfetch 224 1037 = some (9, .iconst 2, 1) := by decide +kernel
theorem i224_1038 : zfetch 224 1038 = some (9, .iadd, 1) := by decide +kernel
theorem i224_1039 : zfetch 224 1039 = some (9, .iaload, 1) := by decide +kernel
theorem i224_1040 : zfetch 224 1040 = some (9, .aload_n 0, 1) := by decide +kernel
theorem i224_1041 : zfetch 224 1041 = some (9, .iload_n 3, 1) := by decide +kernel
theorem i224_1042 : zfetch 224 1042 = some (9, .iconst 3, 1) := by decide +kernel
theorem i224_1043 : zfetch 224 1043 = some (9, .iadd, 1) := by decide +kernel
theorem i224_1044 : zfetch 224 1044 = some (9, .iaload, 1) := by decide +kernel
theorem i224_1045 : zfetch 224 1045 = some (9, .invokevirtual 128, 3) := by decide +kernel
theorem i224_1048 : zfetch 224 1048 = some (9, .if_icmp .eq 417, 3) := by decide +kernel
theorem i224_1051 : zfetch 224 1051 = some (9, .iconst 0, 1) := by decide +kernel
theorem i224_1052 : zfetch 224 1052 = some (9, .ireturn, 1) := by decide +kernel
theorem i224_1053 : zfetch 224 1053 = some (9, .aload_n 1, 1) := by decide +kernel
theorem i224_1054 : zfetch 224 1054 = some (9, .aload_n 0, 1) := by decide +kernel
theorem i224_1055 : zfetch 224 1055 = some (9, .iload_n 3, 1) := by decide +kernel
theorem i224_1056 : zfetch 224 1056 = some (9, .iconst 1, 1) := by decide +kernel
theorem i224_1057 : zfetch 224 1057 = some (9, .iadd, 1) := by decide +kernel
theorem i224_1058 : zfetch 224 1058 = some (9, .iaload, 1) := by decide +kernel
theorem i224_1059 : zfetch 224 1059 = some (9, .aload_n 0, 1) := by decide +kernel
theorem i224_1060 : zfetch 224 1060 = some (9, .iload_n 3, 1) := by decide +kernel
theorem i224_1061 : zfetch 224 1061 = some (9, .iconst 2, 1) := by decide +kernel
theorem i224_1062 : zfetch 224 1062 = some (9, .iadd, 1) := by decide +kernel
theorem i224_1063 : zfetch 224 1063 = some (9, .iaload, 1) := by decide +kernel
theorem i224_1064 : zfetch 224 1064 = some (9, .aload_n 0, 1) := by decide +kernel
theorem i224_1065 : zfetch 224 1065 = some (9, .iload_n 3, 1) := by decide +kernel
theorem i224_1066 : zfetch 224 1066 = some (9, .iconst 3, 1) := by decide +kernel
theorem i224_1067 : zfetch 224 1067 = some (9, .iadd, 1) := by decide +kernel
theorem i224_1068 : zfetch 224 1068 = some (9, .iaload, 1) := by decide +kernel
theorem i224_1069 : zfetch 224 1069 = some (9, .invokevirtual 129, 3) := by decide +kernel
theorem i224_1072 : zfetch 224 1072 = some (9, .aload_n 2, 1) := by decide +kernel
theorem i224_1073 : zfetch 224 1073 = some (9, .aload_n 0, 1) := by decide +kernel
theorem i224_1074 : zfetch 224 1074 = some (9, .iload_n 3, 1) := by decide +kernel
theorem i224_1075 : zfetch 224 1075 = some (9, .iconst 1, 1) := by decide +kernel
theorem i224_1076 : zfetch 224 1076 = some (9, .iadd, 1) := by decide +kernel
theorem i224_1077 : zfetch 224 1077 = some (9, .iaload, 1) := by decide +kernel
theorem i224_1078 : zfetch 224 1078 = some (9, .aload_n 0, 1) := by decide +kernel
theorem i224_1079 : zfetch 224 1079 = some (9, .iload_n 3, 1) := by decide +kernel
theorem i224_1080 : zfetch 224 1080 = some (9, .iconst 2, 1) := by decide +kernel
theorem i224_1081 : zfetch 224 1081 = some (9, .iadd, 1) := by decide +kernel
theorem i224_1082 : zfetch 224 1082 = some (9, .iaload, 1) := by decide +kernel
theorem i224_1083 : zfetch 224 1083 = some (9, .aload_n 0, 1) := by decide +kernel
theorem i224_1084 : zfetch 224 1084 = some (9, .iload_n 3, 1) := by decide +kernel
theorem i224_1085 : zfetch 224 1085 = some (9, .iconst 3, 1) := by decide +kernel
theorem i224_1086 : zfetch 224 1086 = some (9, .iadd, 1) := by decide +kernel
theorem i224_1087 : zfetch 224 1087 = some (9, .iaload, 1) := by decide +kernel
theorem i224_1088 : zfetch 224 1088 = some (9, .invokevirtual 132, 3) := by decide +kernel
theorem i224_1091 : zfetch 224 1091 = some (9, .if_icmp .eq 374, 3) := by decide +kernel
theorem i224_1094 : zfetch 224 1094 = some (9, .iconst 0, 1) := by decide +kernel
theorem i224_1095 : zfetch 224 1095 = some (9, .ireturn, 1) := by decide +kernel
theorem i224_1096 : zfetch 224 1096 = some (9, .aload_n 1, 1) := by decide +kernel
theorem i224_1097 : zfetch 224 1097 = some (9, .aload_n 0, 1) := by decide +kernel
theorem i224_1098 : zfetch 224 1098 = some (9, .iload_n 3, 1) := by decide +kernel
theorem i224_1099 : zfetch 224 1099 = some (9, .iconst 1, 1) := by decide +kernel
theorem i224_1100 : zfetch 224 1100 = some (9, .iadd, 1) := by decide +kernel
theorem i224_1101 : zfetch 224 1101 = some (9, .iaload, 1) := by decide +kernel
theorem i224_1102 : zfetch 224 1102 = some (9, .aload_n 0, 1) := by decide +kernel
theorem i224_1103 : zfetch 224 1103 = some (9, .iload_n 3, 1) := by decide +kernel
theorem i224_1104 : zfetch 224 1104 = some (9, .iconst 2, 1) := by decide +kernel
theorem i224_1105 : zfetch 224 1105 = some (9, .iadd, 1) := by decide +kernel
theorem i224_1106 : zfetch 224 1106 = some (9, .iaload, 1) := by decide +kernel
theorem i224_1107 : zfetch 224 1107 = some (9, .aload_n 0, 1) := by decide +kernel
theorem i224_1108 : zfetch 224 1108 = some (9, .iload_n 3, 1) := by decide +kernel
theorem i224_1109 : zfetch 224 1109 = some (9, .iconst 3, 1) := by decide +kernel
theorem i224_1110 : zfetch 224 1110 = some (9, .iadd, 1) := by decide +kernel
theorem i224_1111 : zfetch 224 1111 = some (9, .iaload, 1) := by decide +kernel
theorem i224_1112 : zfetch 224 1112 = some (9, .invokevirtual 133, 3) := by decide +kernel
theorem i224_1115 : zfetch 224 1115 = some (9, .aload_n 2, 1) := by decide +kernel
theorem i224_1116 : zfetch 224 1116 = some (9, .aload_n 0, 1) := by decide +kernel
theorem i224_1117 : zfetch 224 1117 = some (9, .iload_n 3, 1) := by decide +kernel
theorem i224_1118 : zfetch 224 1118 = some (9, .iconst 1, 1) := by decide +kernel
theorem i224_1119 : zfetch 224 1119 = some (9, .iadd, 1) := by decide +kernel
theorem i224_1120 : zfetch 224 1120 = some (9, .iaload, 1) := by decide +kernel
theorem i224_1121 : zfetch 224 1121 = some (9, .aload_n 0, 1) := by decide +kernel
theorem i224_1122 : zfetch 224 1122 = some (9, .iload_n 3, 1) := by decide +kernel
theorem i224_1123 : zfetch 224 1123 = some (9, .iconst 2, 1) := by decide +kernel
theorem i224_1124 : zfetch 224 1124 = some (9, .iadd, 1) := by decide +kernel
theorem i224_1125 : zfetch 224 1125 = some (9, .iaload, 1) := by decide +kernel
theorem i224_1126 : zfetch 224 1126 = some (9, .aload_n 0, 1) := by decide +kernel
theorem i224_1127 : zfetch 224 1127 = some (9, .iload_n 3, 1) := by decide +kernel
theorem i224_1128 : zfetch 224 1128 = some (9, .iconst 3, 1) := by decide +kernel
theorem i224_1129 : zfetch 224 1129 = some (9, .iadd, 1) := by decide +kernel
theorem i224_1130 : zfetch 224 1130 = some (9, .iaload, 1) := by decide +kernel
theorem i224_1131 : zfetch 224 1131 = some (9, .invokevirtual 136, 3) := by decide +kernel
theorem i224_1134 : zfetch 224 1134 = some (9, .if_icmp .eq 331, 3) := by decide +kernel
theorem i224_1137 : zfetch 224 1137 = some (9, .iconst 0, 1) := by decide +kernel
theorem i224_1138 : zfetch 224 1138 = some (9, .ireturn, 1) := by decide +kernel
theorem i224_1139 : zfetch 224 1139 = some (9, .aload_n 1, 1) := by decide +kernel
theorem i224_1140 : zfetch 224 1140 = some (9, .aload_n 0, 1) := by decide +kernel
theorem i224_1141 : zfetch 224 1141 = some (9, .iload_n 3, 1) := by decide +kernel
theorem i224_1142 : zfetch 224 1142 = some (9, .iconst 1, 1) := by decide +kernel
theorem i224_1143 : zfetch 224 1143 = some (9, .iadd, 1) := by decide +kernel
theorem i224_1144 : zfetch 224 1144 = some (9, .iaload, 1) := by decide +kernel
theorem i224_1145 : zfetch 224 1145 = some (9, .invokevirtual 137, 3) := by decide +kernel
theorem i224_1148 : zfetch 224 1148 = some (9, .aload_n 2, 1) := by decide +kernel
theorem i224_1149 : zfetch 224 1149 = some (9, .aload_n 0, 1) := by decide +kernel
theorem i224_1150 : zfetch 224 1150 = some (9, .iload_n 3, 1) := by decide +kernel
theorem i224_1151 : zfetch 224 1151 = some (9, .iconst 1, 1) := by decide +kernel
theorem i224_1152 : zfetch 224 1152 = some (9, .iadd, 1) := by decide +kernel
theorem i224_1153 : zfetch 224 1153 = some (9, .iaload, 1) := by decide +kernel
theorem i224_1154 : zfetch 224 1154 = some (9, .invokevirtual 140, 3) := by decide +kernel
theorem i224_1157 : zfetch 224 1157 = some (9, .if_icmp .eq 308, 3) := by decide +kernel
theorem i224_1160 : zfetch 224 1160 = some (9, .iconst 0, 1) := by decide +kernel
theorem i224_1161 : zfetch 224 1161 = some (9, .ireturn, 1) := by decide +kernel
theorem i224_1162 : zfetch 224 1162 = some (9, .aload_n 1, 1) := by decide +kernel
theorem i224_1163 : zfetch 224 1163 = some (9, .aload_n 0, 1) := by decide +kernel
theorem i224_1164 : zfetch 224 1164 = some (9, .iload_n 3, 1) := by decide +kernel
theorem i224_1165 : zfetch 224 1165 = some (9, .iconst 1, 1) := by decide +kernel
theorem i224_1166 : zfetch 224 1166 = some (9, .iadd, 1) := by decide +kernel
theorem i224_1167 : zfetch 224 1167 = some (9, .iaload, 1) := by decide +kernel
theorem i224_1168 : zfetch 224 1168 = some (9, .aload_n 0, 1) := by decide +kernel
theorem i224_1169 : zfetch 224 1169 = some (9, .iload_n 3, 1) := by decide +kernel
theorem i224_1170 : zfetch 224 1170 = some (9, .iconst 2, 1) := by decide +kernel
theorem i224_1171 : zfetch 224 1171 = some (9, .iadd, 1) := by decide +kernel
theorem i224_1172 : zfetch 224 1172 = some (9, .iaload, 1) := by decide +kernel
theorem i224_1173 : zfetch 224 1173 = some (9, .aload_n 0, 1) := by decide +kernel
theorem i224_1174 : zfetch 224 1174 = some (9, .iload_n 3, 1) := by decide +kernel
theorem i224_1175 : zfetch 224 1175 = some (9, .iconst 3, 1) := by decide +kernel
theorem i224_1176 : zfetch 224 1176 = some (9, .iadd, 1) := by decide +kernel
theorem i224_1177 : zfetch 224 1177 = some (9, .iaload, 1) := by decide +kernel
theorem i224_1178 : zfetch 224 1178 = some (9, .invokevirtual 141, 3) := by decide +kernel
theorem i224_1181 : zfetch 224 1181 = some (9, .aload_n 2, 1) := by decide +kernel
theorem i224_1182 : zfetch 224 1182 = some (9, .aload_n 0, 1) := by decide +kernel
theorem i224_1183 : zfetch 224 1183 = some (9, .iload_n 3, 1) := by decide +kernel
theorem i224_1184 : zfetch 224 1184 = some (9, .iconst 1, 1) := by decide +kernel
theorem i224_1185 : zfetch 224 1185 = some (9, .iadd, 1) := by decide +kernel
theorem i224_1186 : zfetch 224 1186 = some (9, .iaload, 1) := by decide +kernel
theorem i224_1187 : zfetch 224 1187 = some (9, .aload_n 0, 1) := by decide +kernel
theorem i224_1188 : zfetch 224 1188 = some (9, .iload_n 3, 1) := by decide +kernel
theorem i224_1189 : zfetch 224 1189 = some (9, .iconst 2, 1) := by decide +kernel
theorem i224_1190 : zfetch 224 1190 = some (9, .iadd, 1) := by decide +kernel
theorem i224_1191 : zfetch 224 1191 = some (9, .iaload, 1) := by decide +kernel
theorem i224_1192 : zfetch 224 1192 = some (9, .aload_n 0, 1) := by decide +kernel
theorem i224_1193 : zfetch 224 1193 = some (9, .iload_n 3, 1) := by decide +kernel
theorem i224_1194 : zfetch 224 1194 = some (9, .iconst 3, 1) := by decide +kernel
theorem i224_1195 : zfetch 224 1195 = some (9, .iadd, 1) := by decide +kernel
theorem i224_1196 : zfetch 224 1196 = some (9, .iaload, 1) := by decide +kernel
theorem i224_1197 : zfetch 224 1197 = some (9, .invokevirtual 144, 3) := by decide +kernel
theorem i224_1200 : zfetch 224 1200 = some (9, .if_icmp .eq 265, 3) := by decide +kernel
theorem i224_1203 : zfetch 224 1203 = some (9, .iconst 0, 1) := by decide +kernel
theorem i224_1204 : zfetch 224 1204 = some (9, .ireturn, 1) := by decide +kernel
theorem i224_1205 : zfetch 224 1205 = some (9, .aload_n 1, 1) := by decide +kernel
theorem i224_1206 : zfetch 224 1206 = some (9, .aload_n 0, 1) := by decide +kernel
theorem i224_1207 : zfetch 224 1207 = some (9, .iload_n 3, 1) := by decide +kernel
theorem i224_1208 : zfetch 224 1208 = some (9, .iconst 1, 1) := by decide +kernel
theorem i224_1209 : zfetch 224 1209 = some (9, .iadd, 1) := by decide +kernel
theorem i224_1210 : zfetch 224 1210 = some (9, .iaload, 1) := by decide +kernel
theorem i224_1211 : zfetch 224 1211 = some (9, .aload_n 0, 1) := by decide +kernel
theorem i224_1212 : zfetch 224 1212 = some (9, .iload_n 3, 1) := by decide +kernel
theorem i224_1213 : zfetch 224 1213 = some (9, .iconst 2, 1) := by decide +kernel
theorem i224_1214 : zfetch 224 1214 = some (9, .iadd, 1) := by decide +kernel
theorem i224_1215 : zfetch 224 1215 = some (9, .iaload, 1) := by decide +kernel
theorem i224_1216 : zfetch 224 1216 = some (9, .aload_n 0, 1) := by decide +kernel
theorem i224_1217 : zfetch 224 1217 = some (9, .iload_n 3, 1) := by decide +kernel
theorem i224_1218 : zfetch 224 1218 = some (9, .iconst 3, 1) := by decide +kernel
theorem i224_1219 : zfetch 224 1219 = some (9, .iadd, 1) := by decide +kernel
theorem i224_1220 : zfetch 224 1220 = some (9, .iaload, 1) := by decide +kernel
theorem i224_1221 : zfetch 224 1221 = some (9, .invokevirtual 145, 3) := by decide +kernel
theorem i224_1224 : zfetch 224 1224 = some (9, .aload_n 2, 1) := by decide +kernel
theorem i224_1225 : zfetch 224 1225 = some (9, .aload_n 0, 1) := by decide +kernel
theorem i224_1226 : zfetch 224 1226 = some (9, .iload_n 3, 1) := by decide +kernel
theorem i224_1227 : zfetch 224 1227 = some (9, .iconst 1, 1) := by decide +kernel
theorem i224_1228 : zfetch 224 1228 = some (9, .iadd, 1) := by decide +kernel
theorem i224_1229 : zfetch 224 1229 = some (9, .iaload, 1) := by decide +kernel
theorem i224_1230 : zfetch 224 1230 = some (9, .aload_n 0, 1) := by decide +kernel
theorem i224_1231 : zfetch 224 1231 = some (9, .iload_n 3, 1) := by decide +kernel
theorem i224_1232 : zfetch 224 1232 = some (9, .iconst 2, 1) := by decide +kernel
theorem i224_1233 : zfetch 224 1233 = some (9, .iadd, 1) := by decide +kernel
theorem i224_1234 : zfetch 224 1234 = some (9, .iaload, 1) := by decide +kernel
theorem i224_1235 : zfetch 224 1235 = some (9, .aload_n 0, 1) := by decide +kernel
theorem i224_1236 : zfetch 224 1236 = some (9, .iload_n 3, 1) := by decide +kernel
theorem i224_1237 : zfetch 224 1237 = some (9, .iconst 3, 1) := by decide +kernel
theorem i224_1238 : zfetch 224 1238 = some (9, .iadd, 1) := by decide +kernel
theorem i224_1239 : zfetch 224 1239 = some (9, .iaload, 1) := by decide +kernel
theorem i224_1240 : zfetch 224 1240 = some (9, .invokevirtual 148, 3) := by decide +kernel
theorem i224_1243 : zfetch 224 1243 = some (9, .if_icmp .eq 222, 3) := by decide +kernel
theorem i224_1246 : zfetch 224 1246 = some (9, .iconst 0, 1) := by decide +kernel
theorem i224_1247 : zfetch 224 1247 = some (9, .ireturn, 1) := by decide +kernel
theorem i224_1248 : zfetch 224 1248 = some (9, .aload_n 1, 1) := by decide +kernel
theorem i224_1249 : zfetch 224 1249 = some (9, .aload_n 0, 1) := by decide +kernel
theorem i224_1250 : zfetch 224 1250 = some (9, .iload_n 3, 1) := by decide +kernel
theorem i224_1251 : zfetch 224 1251 = some (9, .iconst 1, 1) := by decide +kernel
theorem i224_1252 : zfetch 224 1252 = some (9, .iadd, 1) := by decide +kernel
theorem i224_1253 : zfetch 224 1253 = some (9, .iaload, 1) := by decide +kernel
theorem i224_1254 : zfetch 224 1254 = some (9, .aload_n 0, 1) := by decide +kernel
theorem i224_1255 : zfetch 224 1255 = some (9, .iload_n 3, 1) := by decide +kernel
theorem i224_1256 : zfetch 224 1256 = some (9, .iconst 2, 1) := by decide +kernel
theorem i224_1257 : zfetch 224 1257 = some (9, .iadd, 1) := by decide +kernel
theorem i224_1258 : zfetch 224 1258 = some (9, .iaload, 1) := by decide +kernel
theorem i224_1259 : zfetch 224 1259 = some (9, .aload_n 0, 1) := by decide +kernel
theorem i224_1260 : zfetch 224 1260 = some (9, .iload_n 3, 1) := by decide +kernel
theorem i224_1261 : zfetch 224 1261 = some (9, .iconst 3, 1) := by decide +kernel
theorem i224_1262 : zfetch 224 1262 = some (9, .iadd, 1) := by decide +kernel
theorem i224_1263 : zfetch 224 1263 = some (9, .iaload, 1) := by decide +kernel
theorem i224_1264 : zfetch 224 1264 = some (9, .aload_n 0, 1) := by decide +kernel
theorem i224_1265 : zfetch 224 1265 = some (9, .iload_n 3, 1) := by decide +kernel
theorem i224_1266 : zfetch 224 1266 = some (9, .iconst 4, 1) := by decide +kernel
theorem i224_1267 : zfetch 224 1267 = some (9, .iadd, 1) := by decide +kernel
theorem i224_1268 : zfetch 224 1268 = some (9, .iaload, 1) := by decide +kernel
theorem i224_1269 : zfetch 224 1269 = some (9, .aload_n 0, 1) := by decide +kernel
theorem i224_1270 : zfetch 224 1270 = some (9, .iload_n 3, 1) := by decide +kernel
theorem i224_1271 : zfetch 224 1271 = some (9, .iconst 5, 1) := by decide +kernel
theorem i224_1272 : zfetch 224 1272 = some (9, .iadd, 1) := by decide +kernel
theorem i224_1273 : zfetch 224 1273 = some (9, .iaload, 1) := by decide +kernel
theorem i224_1274 : zfetch 224 1274 = some (9, .invokevirtual 149, 3) := by decide +kernel
theorem i224_1277 : zfetch 224 1277 = some (9, .aload_n 2, 1) := by decide +kernel
theorem i224_1278 : zfetch 224 1278 = some (9, .aload_n 0, 1) := by decide +kernel
theorem i224_1279 : zfetch 224 1279 = some (9, .iload_n 3, 1) := by decide +kernel
theorem i224_1280 : zfetch 224 1280 = some (9, .iconst 1, 1) := by decide +kernel
theorem i224_1281 : zfetch 224 1281 = some (9, .iadd, 1) := by decide +kernel
theorem i224_1282 : zfetch 224 1282 = some (9, .iaload, 1) := by decide +kernel
theorem i224_1283 : zfetch 224 1283 = some (9, .aload_n 0, 1) := by decide +kernel
theorem i224_1284 : zfetch 224 1284 = some (9, .iload_n 3, 1) := by decide +kernel
theorem i224_1285 : zfetch 224 1285 = some (9, .iconst 2, 1) := by decide +kernel
theorem i224_1286 : zfetch 224 1286 = some (9, .iadd, 1) := by decide +kernel
theorem i224_1287 : zfetch 224 1287 = some (9, .iaload, 1) := by decide +kernel
theorem i224_1288 : zfetch 224 1288 = some (9, .aload_n 0, 1) := by decide +kernel
theorem i224_1289 : zfetch 224 1289 = some (9, .iload_n 3, 1) := by decide +kernel
theorem i224_1290 : zfetch 224 1290 = some (9, .iconst 3, 1) := by decide +kernel
theorem i224_1291 : zfetch 224 1291 = some (9, .iadd, 1) := by decide +kernel
theorem i224_1292 : zfetch 224 1292 = some (9, .iaload, 1) := by decide +kernel
theorem i224_1293 : zfetch 224 1293 = some (9, .aload_n 0, 1) := by decide +kernel
theorem i224_1294 : zfetch 224 1294 = some (9, .iload_n 3, 1) := by decide +kernel
theorem i224_1295 : zfetch 224 1295 = some (9, .iconst 4, 1) := by decide +kernel
theorem i224_1296 : zfetch 224 1296 = some (9, .iadd, 1) := by decide +kernel
theorem i224_1297 : zfetch 224 1297 = some (9, .iaload, 1) := by decide +kernel
theorem i224_1298 : zfetch 224 1298 = some (9, .aload_n 0, 1) := by decide +kernel
theorem i224_1299 : zfetch 224 1299 = some (9, .iload_n 3, 1) := by decide +kernel
theorem i224_1300 : zfetch 224 1300 = some (9, .iconst 5, 1) := by decide +kernel
theorem i224_1301 : zfetch 224 1301 = some (9, .iadd, 1) := by decide +kernel
theorem i224_1302 : zfetch 224 1302 = some (9, .iaload, 1) := by decide +kernel
theorem i224_1303 : zfetch 224 1303 = some (9, .invokevirtual 153, 3) := by decide +kernel
theorem i224_1306 : zfetch 224 1306 = some (9, .if_icmp .eq 159, 3) := by decide +kernel
theorem i224_1309 : zfetch 224 1309 = some (9, .iconst 0, 1) := by decide +kernel
theorem i224_1310 : zfetch 224 1310 = some (9, .ireturn, 1) := by decide +kernel
theorem i224_1311 : zfetch 224 1311 = some (9, .aload_n 1, 1) := by decide +kernel
theorem i224_1312 : zfetch 224 1312 = some (9, .aload_n 0, 1) := by decide +kernel
theorem i224_1313 : zfetch 224 1313 = some (9, .iload_n 3, 1) := by decide +kernel
theorem i224_1314 : zfetch 224 1314 = some (9, .iconst 1, 1) := by decide +kernel
theorem i224_1315 : zfetch 224 1315 = some (9, .iadd, 1) := by decide +kernel
theorem i224_1316 : zfetch 224 1316 = some (9, .iaload, 1) := by decide +kernel
theorem i224_1317 : zfetch 224 1317 = some (9, .invokevirtual 154, 3) := by decide +kernel
theorem i224_1320 : zfetch 224 1320 = some (9, .aload_n 2, 1) := by decide +kernel
theorem i224_1321 : zfetch 224 1321 = some (9, .aload_n 0, 1) := by decide +kernel
theorem i224_1322 : zfetch 224 1322 = some (9, .iload_n 3, 1) := by decide +kernel
theorem i224_1323 : zfetch 224 1323 = some (9, .iconst 1, 1) := by decide +kernel
theorem i224_1324 : zfetch 224 1324 = some (9, .iadd, 1) := by decide +kernel
theorem i224_1325 : zfetch 224 1325 = some (9, .iaload, 1) := by decide +kernel
theorem i224_1326 : zfetch 224 1326 = some (9, .invokevirtual 157, 3) := by decide +kernel
theorem i224_1329 : zfetch 224 1329 = some (9, .if_icmp .eq 136, 3) := by decide +kernel
theorem i224_1332 : zfetch 224 1332 = some (9, .iconst 0, 1) := by decide +kernel
theorem i224_1333 : zfetch 224 1333 = some (9, .ireturn, 1) := by decide +kernel
theorem i224_1334 : zfetch 224 1334 = some (9, .aload_n 1, 1) := by decide +kernel
theorem i224_1335 : zfetch 224 1335 = some (9, .aload_n 0, 1) := by decide +kernel
theorem i224_1336 : zfetch 224 1336 = some (9, .iload_n 3, 1) := by decide +kernel
theorem i224_1337 : zfetch 224 1337 = some (9, .iconst 1, 1) := by decide +kernel
theorem i224_1338 : zfetch 224 1338 = some (9, .iadd, 1) := by decide +kernel
theorem i224_1339 : zfetch 224 1339 = some (9, .iaload, 1) := by decide +kernel
theorem i224_1340 : zfetch 224 1340 = some (9, .invokevirtual 158, 3) := by decide +kernel
theorem i224_1343 : zfetch 224 1343 = some (9, .aload_n 2, 1) := by decide +kernel
theorem i224_1344 : zfetch 224 1344 = some (9, .aload_n 0, 1) := by decide +kernel
theorem i224_1345 : zfetch 224 1345 = some (9, .iload_n 3, 1) := by decide +kernel
theorem i224_1346 : zfetch 224 1346 = some (9, .iconst 1, 1) := by decide +kernel
theorem i224_1347 : zfetch 224 1347 = some (9, .iadd, 1) := by decide +kernel
theorem i224_1348 : zfetch 224 1348 = some (9, .iaload, 1) := by decide +kernel
theorem i224_1349 : zfetch 224 1349 = some (9, .invokevirtual 161, 3) := by decide +kernel
theorem i224_1352 : zfetch 224 1352 = some (9, .if_icmp .eq 113, 3) := by decide +kernel
theorem i224_1355 : zfetch 224 1355 = some (9, .iconst 0, 1) := by decide +kernel
theorem i224_1356 : zfetch 224 1356 = some (9, .ireturn, 1) := by decide +kernel
theorem i224_1357 : zfetch 224 1357 = some (9, .aload_n 1, 1) := by decide +kernel
theorem i224_1358 : zfetch 224 1358 = some (9, .invokevirtual 162, 3) := by decide +kernel
theorem i224_1361 : zfetch 224 1361 = some (9, .aload_n 2, 1) := by decide +kernel
theorem i224_1362 : zfetch 224 1362 = some (9, .invokevirtual 165, 3) := by decide +kernel
theorem i224_1365 : zfetch 224 1365 = some (9, .if_icmp .eq 100, 3) := by decide +kernel
theorem i224_1368 : zfetch 224 1368 = some (9, .iconst 0, 1) := by decide +kernel
theorem i224_1369 : zfetch 224 1369 = some (9, .ireturn, 1) := by decide +kernel
theorem i224_1370 : zfetch 224 1370 = some (9, .aload_n 1, 1) := by decide +kernel
theorem i224_1371 : zfetch 224 1371 = some (9, .invokevirtual 166, 3) := by decide +kernel
theorem i224_1374 : zfetch 224 1374 = some (9, .aload_n 2, 1) := by decide +kernel
theorem i224_1375 : zfetch 224 1375 = some (9, .invokevirtual 169, 3) := by decide +kernel
theorem i224_1378 : zfetch 224 1378 = some (9, .if_icmp .eq 87, 3) := by decide +kernel
theorem i224_1381 : zfetch 224 1381 = some (9, .iconst 0, 1) := by decide +kernel
theorem i224_1382 : zfetch 224 1382 = some (9, .ireturn, 1) := by decide +kernel
theorem i224_1383 : zfetch 224 1383 = some (9, .aload_n 1, 1) := by decide +kernel
theorem i224_1384 : zfetch 224 1384 = some (9, .aload_n 0, 1) := by decide +kernel
theorem i224_1385 : zfetch 224 1385 = some (9, .iload_n 3, 1) := by decide +kernel
theorem i224_1386 : zfetch 224 1386 = some (9, .iconst 1, 1) := by decide +kernel
theorem i224_1387 : zfetch 224 1387 = some (9, .iadd, 1) := by decide +kernel
theorem i224_1388 : zfetch 224 1388 = some (9, .iaload, 1) := by decide +kernel
theorem i224_1389 : zfetch 224 1389 = some (9, .invokevirtual 170, 3) := by decide +kernel
theorem i224_1392 : zfetch 224 1392 = some (9, .aload_n 2, 1) := by decide +kernel
theorem i224_1393 : zfetch 224 1393 = some (9, .aload_n 0, 1) := by decide +kernel
theorem i224_1394 : zfetch 224 1394 = some (9, .iload_n 3, 1) := by decide +kernel
theorem i224_1395 : zfetch 224 1395 = some (9, .iconst 1, 1) := by decide +kernel
theorem i224_1396 : zfetch 224 1396 = some (9, .iadd, 1) := by decide +kernel
theorem i224_1397 : zfetch 224 1397 = some (9, .iaload, 1) := by decide +kernel
theorem i224_1398 : zfetch 224 1398 = some (9, .invokevirtual 173, 3) := by decide +kernel
theorem i224_1401 : zfetch 224 1401 = some (9, .if_icmp .eq 64, 3) := by decide +kernel
theorem i224_1404 : zfetch 224 1404 = some (9, .iconst 0, 1) := by decide +kernel
theorem i224_1405 : zfetch 224 1405 = some (9, .ireturn, 1) := by decide +kernel
theorem i224_1406 : zfetch 224 1406 = some (9, .aload_n 1, 1) := by decide +kernel
theorem i224_1407 : zfetch 224 1407 = some (9, .invokevirtual 174, 3) := by decide +kernel
theorem i224_1410 : zfetch 224 1410 = some (9, .aload_n 2, 1) := by decide +kernel
theorem i224_1411 : zfetch 224 1411 = some (9, .invokevirtual 177, 3) := by decide +kernel
theorem i224_1414 : zfetch 224 1414 = some (9, .if_icmp .eq 51, 3) := by decide +kernel
theorem i224_1417 : zfetch 224 1417 = some (9, .iconst 0, 1) := by decide +kernel
theorem i224_1418 : zfetch 224 1418 = some (9, .ireturn, 1) := by decide +kernel
theorem i224_1419 : zfetch 224 1419 = some (9, .aload_n 1, 1) := by decide +kernel
theorem i224_1420 : zfetch 224 1420 = some (9, .aload_n 0, 1) := by decide +kernel
theorem i224_1421 : zfetch 224 1421 = some (9, .iload_n 3, 1) := by decide +kernel
theorem i224_1422 : zfetch 224 1422 = some (9, .iconst 1, 1) := by decide +kernel
theorem i224_1423 : zfetch 224 1423 = some (9, .iadd, 1) := by decide +kernel
theorem i224_1424 : zfetch 224 1424 = some (9, .iaload, 1) := by decide +kernel
theorem i224_1425 : zfetch 224 1425 = some (9, .invokevirtual 178, 3) := by decide +kernel
theorem i224_1428 : zfetch 224 1428 = some (9, .aload_n 2, 1) := by decide +kernel
theorem i224_1429 : zfetch 224 1429 = some (9, .aload_n 0, 1) := by decide +kernel
theorem i224_1430 : zfetch 224 1430 = some (9, .iload_n 3, 1) := by decide +kernel
theorem i224_1431 : zfetch 224 1431 = some (9, .iconst 1, 1) := by decide +kernel
theorem i224_1432 : zfetch 224 1432 = some (9, .iadd, 1) := by decide +kernel
theorem i224_1433 : zfetch 224 1433 = some (9, .iaload, 1) := by decide +kernel
theorem i224_1434 : zfetch 224 1434 = some (9, .invokevirtual 181, 3) := by decide +kernel
theorem i224_1437 : zfetch 224 1437 = some (9, .if_icmp .eq 28, 3) := by decide +kernel
theorem i224_1440 : zfetch 224 1440 = some (9, .iconst 0, 1) := by decide +kernel
theorem i224_1441 : zfetch 224 1441 = some (9, .ireturn, 1) := by decide +kernel
theorem i224_1442 : zfetch 224 1442 = some (9, .aload_n 1, 1) := by decide +kernel
theorem i224_1443 : zfetch 224 1443 = some (9, .aload_n 0, 1) := by decide +kernel
theorem i224_1444 : zfetch 224 1444 = some (9, .iload_n 3, 1) := by decide +kernel
theorem i224_1445 : zfetch 224 1445 = some (9, .iconst 1, 1) := by decide +kernel
theorem i224_1446 : zfetch 224 1446 = some (9, .iadd, 1) := by decide +kernel
theorem i224_1447 : zfetch 224 1447 = some (9, .iaload, 1) := by decide +kernel
theorem i224_1448 : zfetch 224 1448 = some (9, .invokevirtual 182, 3) := by decide +kernel
theorem i224_1451 : zfetch 224 1451 = some (9, .aload_n 2, 1) := by decide +kernel
theorem i224_1452 : zfetch 224 1452 = some (9, .aload_n 0, 1) := by decide +kernel
theorem i224_1453 : zfetch 224 1453 = some (9, .iload_n 3, 1) := by decide +kernel
theorem i224_1454 : zfetch 224 1454 = some (9, .iconst 1, 1) := by decide +kernel
theorem i224_1455 : zfetch 224 1455 = some (9, .iadd, 1) := by decide +kernel
theorem i224_1456 : zfetch 224 1456 = some (9, .iaload, 1) := by decide +kernel
theorem i224_1457 : zfetch 224 1457 = some (9, .invokevirtual 185, 3) := by decide +kernel
theorem i224_1460 : zfetch 224 1460 = some (9, .if_icmp .eq 5, 3) := by decide +kernel
theorem i224_1463 : zfetch 224 1463 = some (9, .iconst 0, 1) := by decide +kernel
theorem i224_1464 : zfetch 224 1464 = some (9, .ireturn, 1) := by decide +kernel
theorem i224_1465 : zfetch 224 1465 = some (9, .iinc 3 6, 3) := by decide +kernel
theorem i224_1468 : zfetch 224 1468 = some (9, .goto (-1450), 3) := by decide +kernel
theorem i224_1471 : zfetch 224 1471 = some (9, .iconst 1, 1) := by decide +kernel
theorem i224_1472 : zfetch 224 1472 = some (9, .ireturn, 1) := by decide +kernel
