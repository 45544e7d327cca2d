theorem i63_41 : zfetch 63 41 = some (7, .iload_n 2, 1) := by decide +kernel
theorem i63_42 : zfetch 63 42 = some (7, .bipush 10, 2) := by decide +kernel
theorem i63_44 : zfetch 63 44 = some (7, .idiv, 1) := by decide +kernel
theorem i63_45 : zfetch 63 45 = some (7, .iastore, 1) := by decide +kernel
theorem i63_46 : zfetch 63 46 = some (7, .aload_n 0, 1) := by decide +kernel
theorem i63_47 : zfetch 63 47 = some (7, .getfield 47, 3) := by decide +kernel
theorem i63_50 : zfetch 63 50 = some (7, .getfield 87, 3) := by decide +kernel
theorem i63_53 : zfetch 63 53 = some (7, .iload_n 1, 1) := by decide +kernel
theorem i63_54 : zfetch 63 54 = some (7, .iload_n 2, 1) := by decide +kernel
theorem i63_55 : zfetch 63 55 = some (7, .bipush 10, 2) := by decide +kernel
theorem i63_57 : zfetch 63 57 = some (7, .irem, 1) := by decide +kernel
theorem i63_58 : zfetch 63 58 = some (7, .iastore, 1) := by decide +kernel
theorem i63_59 : zfetch 63 59 = some (7, .iload_n 3, 1) := by decide +kernel
theorem i63_60 : zfetch 63 60 = some (7, .ireturn, 1) := by decide +kernel
theorem i64_0 : zfetch 64 0 = some (7, .aload_n 0, 1) := by decide +kernel
theorem i64_1 : zfetch 64 1 = some (7, .iload_n 1, 1) := by decide +kernel
theorem i64_2 : zfetch 64 2 = some (7, .invokevirtual 68, 3) := by decide +kernel
theorem i64_5 : zfetch 64 5 = some (7, .ifCond .eq 12, 3) := by decide +kernel
theorem i64_8 : zfetch 64 8 = some (7, .iload_n 2, 1) := by decide +kernel
theorem i64_9 : zfetch 64 9 = some (7, .bipush 6, 2) := by decide +kernel
theorem i64_11 : zfetch 64 11 = some (7, .invokestatic 64, 3) := by decide +kernel
theorem i64_14 : zfetch 64 14 = some (7, .ifCond .ne 9, 3) := by decide +kernel
theorem i64_17 : zfetch 64 17 = some (7, .aload_n 0, 1) := by decide +kernel
theorem i64_18 : zfetch 64 18 = some (7, .iconst 1, 1) := by decide +kernel
theorem i64_19 : zfetch 64 19 = some (7, .invokevirtual 72, 3) := by decide +kernel
theorem i64_22 : zfetch 64 22 = some (7, .ireturn, 1) := by decide +kernel
theorem i64_23 : zfetch 64 23 = some (7, .aload_n 0, 1) := by decide +kernel
theorem i64_24 : zfetch 64 24 = some (7, .getfield 47, 3) := by decide +kernel
theorem i64_27 : zfetch 64 27 = some (7, .getfield 84, 3) := by decide +kernel
theorem i64_30 : zfetch 64 30 = some (7, .iload_n 1, 1) := by decide +kernel
theorem i64_31 : zfetch 64 31 = some (7, .iaload, 1) := by decide +kernel
theorem i64_32 : zfetch 64 32 = some (7, .iload_n 2, 1) := by decide +kernel
theorem i64_33 : zfetch 64 33 = some (7, .invokestatic 111, 3) := by decide +kernel
theorem i64_36 : zfetch 64 36 = some (7, .ifCond .eq 15, 3) := by decide +kernel
theorem i64_39 : zfetch 64 39 = some (7, .aload_n 0, 1) := by decide +kernel
theorem i64_40 : zfetch 64 40 = some (7, .getfield 47, 3) := by decide +kernel
theorem i64_43 : zfetch 64 43 = some (7, .getfield 87, 3) := by decide +kernel
theorem i64_46 : zfetch 64 46 = some (7, .iload_n 1, 1) := by decide +kernel
theorem i64_47 : zfetch 64 47 = some (7, .iaload, 1) := by decide +kernel
theorem i64_48 : zfetch 64 48 = some (7, .goto 8, 3) := by decide +kernel
theorem i64_51 : zfetch 64 51 = some (7, .aload_n 0, 1) := by decide +kernel
theorem i64_52 : zfetch 64 52 = some (7, .iconst 5, 1) := by decide +kernel
theorem i64_53 : zfetch 64 53 = some (7, .invokevirtual 72, 3) := by decide +kernel
theorem i64_56 : zfetch 64 56 = some (7, .ireturn, 1) := by decide +kernel
theorem i65_0 : zfetch 65 0 = some (7, .aload_n 0, 1) := by decide +kernel
theorem i65_1 : zfetch 65 1 = some (7, .iload_n 1, 1) := by decide +kernel
theorem i65_2 : zfetch 65 2 = some (7, .invokevirtual 68, 3) := by decide +kernel
theorem i65_5 : zfetch 65 5 = some (7, .ifCond .eq 12, 3) := by decide +kernel
theorem i65_8 : zfetch 65 8 = some (7, .iload_n 2, 1) := by decide +kernel
theorem i65_9 : zfetch 65 9 = some (7, .bipush 99, 2) := by decide +kernel
theorem i65_11 : zfetch 65 11 = some (7, .invokestatic 64, 3) := by decide +kernel
theorem i65_14 : zfetch 65 14 = some (7, .ifCond .ne 9, 3) := by decide +kernel
theorem i65_17 : zfetch 65 17 = some (7, .aload_n 0, 1) := by decide +kernel
theorem i65_18 : zfetch 65 18 = some (7, .iconst 1, 1) := by decide +kernel
theorem i65_19 : zfetch 65 19 = some (7, .invokevirtual 72, 3) := by decide +kernel
theorem i65_22 : zfetch 65 22 = some (7, .ireturn, 1) := by decide +kernel
theorem i65_23 : zfetch 65 23 = some (7, .aload_n 0, 1) := by decide +kernel
theorem i65_24 : zfetch 65 24 = some (7, .getfield 47, 3) := by decide +kernel
theorem i65_27 : zfetch 65 27 = some (7, .iload_n 1, 1) := by decide +kernel
theorem i65_28 : zfetch 65 28 = some (7, .invokevirtual 114, 3) := by decide +kernel
theorem i65_31 : zfetch 65 31 = some (7, .ifCond .ne 9, 3) := by decide +kernel
theorem i65_34 : zfetch 65 34 = some (7, .aload_n 0, 1) := by decide +kernel
theorem i65_35 : zfetch 65 35 = some (7, .iconst 3, 1) := by decide +kernel
theorem i65_36 : zfetch 65 36 = some (7, .invokevirtual 72, 3) := by decide +kernel
theorem i65_39 : zfetch 65 39 = some (7, .ireturn, 1) := by decide +kernel
theorem i65_40 : zfetch 65 40 = some (7, .aload_n 0, 1) := by decide +kernel
theorem i65_41 : zfetch 65 41 = some (7, .getfield 47, 3) := by decide +kernel
theorem i65_44 : zfetch 65 44 = some (7, .getfield 99, 3) := by decide +kernel
theorem i65_47 : zfetch 65 47 = some (7, .iload_n 1, 1) := by decide +kernel
theorem i65_48 : zfetch 65 48 = some (7, .iaload, 1) := by decide +kernel
theorem i65_49 : zfetch 65 49 = some (7, .istore_n 3, 1) := by decide +kernel
theorem i65_50 : zfetch 65 50 = some (7, .aload_n 0, 1) := by decide +kernel
theorem i65_51 : zfetch 65 51 = some (7, .getfield 47, 3) := by decide +kernel
theorem i65_54 : zfetch 65 54 = some (7, .getfield 99, 3) := by decide +kernel
theorem i65_57 : zfetch 65 57 = some (7, .iload_n 1, 1) := by decide +kernel
theorem i65_58 : zfetch 65 58 = some (7, .iload_n 2, 1) := by decide +kernel
theorem i65_59 : zfetch 65 59 = some (7, .iastore, 1) := by decide +kernel
theorem i65_60 : zfetch 65 60 = some (7, .iload_n 3, 1) := by decide +kernel
theorem i65_61 : zfetch 65 61 = some (7, .ireturn, 1) := by decide +kernel
theorem i66_0 : zfetch 66 0 = some (7, .aload_n 0, 1) := by decide +kernel
theorem i66_1 : zfetch 66 1 = some (7, .iload_n 1, 1) := by decide +kernel
theorem i66_2 : zfetch 66 2 = some (7, .invokevirtual 68, 3) := by decide +kernel
theorem i66_5 : zfetch 66 5 = some (7, .ifCond .ne 9, 3) := by decide +kernel
theorem i66_8 : zfetch 66 8 = some (7, .aload_n 0, 1) := by decide +kernel
theorem i66_9 : zfetch 66 9 = some (7, .iconst 1, 1) := by decide +kernel
theorem i66_10 : zfetch 66 10 = some (7, .invokevirtual 72, 3) := by decide +kernel
theorem i66_13 : zfetch 66 13 = some (7, .ireturn, 1) := by decide +kernel
theorem i66_14 : zfetch 66 14 = some (7, .aload_n 0, 1) := by decide +kernel
theorem i66_15 : zfetch 66 15 = some (7, .getfield 47, 3) := by decide +kernel
theorem i66_18 : zfetch 66 18 = some (7, .iload_n 1, 1) := by decide +kernel
theorem i66_19 : zfetch 66 19 = some (7, .invokevirtual 114, 3) := by decide +kernel
theorem i66_22 : zfetch 66 22 = some (7, .ifCond .ne 9, 3) := by decide +kernel
theorem i66_25 : zfetch 66 25 = some (7, .aload_n 0, 1) := by decide +kernel
theorem i66_26 : zfetch 66 26 = some (7, .iconst 3, 1) := by decide +kernel
theorem i66_27 : zfetch 66 27 = some (7, .invokevirtual 72, 3) := by decide +kernel
theorem i66_30 : zfetch 66 30 = some (7, .ireturn, 1) := by decide +kernel
theorem i66_31 : zfetch 66 31 = some (7, .aload_n 0, 1) := by decide +kernel
theorem i66_32 : zfetch 66 32 = some (7, .getfield 47, 3) := by decide +kernel
theorem i66_35 : zfetch 66 35 = some (7, .getfield 90, 3) := by decide +kernel
theorem i66_38 : zfetch 66 38 = some (7, .iload_n 1, 1) := by decide +kernel
theorem i66_39 : zfetch 66 39 = some (7, .iaload, 1) := by decide +kernel
theorem i66_40 : zfetch 66 40 = some (7, .istore_n 2, 1) := by decide +kernel
theorem i66_41 : zfetch 66 41 = some (7, .aload_n 0, 1) := by decide +kernel
theorem i66_42 : zfetch 66 42 = some (7, .getfield 47, 3) := by decide +kernel
theorem i66_45 : zfetch 66 45 = some (7, .iload_n 1, 1) := by decide +kernel
theorem i66_46 : zfetch 66 46 = some (7, .invokevirtual 117, 3) := by decide +kernel
theorem i66_49 : zfetch 66 49 = some (7, .iload_n 2, 1) := by decide +kernel
theorem i66_50 : zfetch 66 50 = some (7, .ireturn, 1) := by decide +kernel
theorem i67_0 : zfetch 67 0 = some (7, .iload_n 1, 1) := by decide +kernel
theorem i67_1 : zfetch 67 1 = some (7, .iconst 5, 1) := by decide +kernel
theorem i67_2 : zfetch 67 2 = some (7, .invokestatic 64, 3) := by decide +kernel
theorem i67_5 : zfetch 67 5 = some (7, .ifCond .eq 20, 3) := by decide +kernel
theorem i67_8 : zfetch 67 8 = some (7, .iload_n 2, 1) := by decide +kernel
theorem i67_9 : zfetch 67 9 = some (7, .bipush 7, 2) := by decide +kernel
theorem i67_11 : zfetch 67 11 = some (7, .invokestatic 64, 3) := by decide +kernel
theorem i67_14 : zfetch 67 14 = some (7, .ifCond .eq 11, 3) := by decide +kernel
theorem i67_17 : zfetch 67 17 = some (7, .iload_n 3, 1) := by decide +kernel
theorem i67_18 : zfetch 67 18 = some (7, .iconst 1, 1) := by decide +kernel
theorem i67_19 : zfetch 67 19 = some (7, .invokestatic 64, 3) := by decide +kernel
theorem i67_22 : zfetch 67 22 = some (7, .ifCond .ne 9, 3) := by decide +kernel
theorem i67_25 : zfetch 67 25 = some (7, .aload_n 0, 1) := by decide +kernel
theorem i67_26 : zfetch 67 26 = some (7, .iconst 1, 1) := by decide +kernel
theorem i67_27 : zfetch 67 27 = some (7, .invokevirtual 72, 3) := by decide +kernel
theorem i67_30 : zfetch 67 30 = some (7, .ireturn, 1) := by decide +kernel
theorem i67_31 : zfetch 67 31 = some (7, .aload_n 0, 1) := by decide +kernel
theorem i67_32 : zfetch 67 32 = some (7, .getfield 47, 3) := by decide +kernel
theorem i67_35 : zfetch 67 35 = some (7, .getfield 121, 3) := by decide +kernel
theorem i67_38 : zfetch 67 38 = some (7, .iload_n 1, 1) := by decide +kernel
theorem i67_39 : zfetch 67 39 = some (7, .iaload, 1) := by decide +kernel
theorem i67_40 : zfetch 67 40 = some (7, .istore 4, 2) := by decide +kernel
theorem i67_42 : zfetch 67 42 = some (7, .aload_n 0, 1) := by decide +kernel
theorem i67_43 : zfetch 67 43 = some (7, .getfield 47, 3) := by decide +kernel
theorem i67_46 : zfetch 67 46 = some (7, .getfield 121, 3) := by decide +kernel
theorem i67_49 : zfetch 67 49 = some (7, .iload_n 1, 1) := by decide +kernel
theorem i67_50 : zfetch 67 50 = some (7, .bipush 10, 2) := by decide +kernel
theorem i67_52 : zfetch 67 52 = some (7, .iload_n 2, 1) := by decide +kernel
theorem i67_53 : zfetch 67 53 = some (7, .imul, 1) := by decide +kernel
theorem i67_54 : zfetch 67 54 = some (7, .iload_n 3, 1) := by decide +kernel
theorem i67_55 : zfetch 67 55 = some (7, .iadd, 1) := by decide +kernel
theorem i67_56 : zfetch 67 56 = some (7, .iastore, 1) := by decide +kernel
theorem i67_57 : zfetch 67 57 = some (7, .iload 4, 2) := by decide +kernel
theorem i67_59 : zfetch 67 59 = some (7, .ireturn, 1) := by decide +kernel
theorem i68_0 : zfetch 68 0 = some (7, .iload_n 1, 1) := by decide +kernel
theorem i68_1 : zfetch 68 1 = some (7, .iconst 5, 1) := by decide +kernel
theorem i68_2 : zfetch 68 2 = some (7, .invokestatic 64, 3) := by decide +kernel
theorem i68_5 : zfetch 68 5 = some (7, .ifCond .eq 15, 3) := by decide +kernel
theorem i68_8 : zfetch 68 8 = some (7, .aload_n 0, 1) := by decide +kernel
theorem i68_9 : zfetch 68 9 = some (7, .getfield 47, 3) := by decide +kernel
theorem i68_12 : zfetch 68 12 = some (7, .getfield 121, 3) := by decide +kernel
theorem i68_15 : zfetch 68 15 = some (7, .iload_n 1, 1) := by decide +kernel
theorem i68_16 : zfetch 68 16 = some (7, .iaload, 1) := by decide +kernel
theorem i68_17 : zfetch 68 17 = some (7, .goto 8, 3) := by decide +kernel
theorem i68_20 : zfetch 68 20 = some (7, .aload_n 0, 1) := by decide +kernel
theorem i68_21 : zfetch 68 21 = some (7, .iconst 1, 1) := by decide +kernel
theorem i68_22 : zfetch 68 22 = some (7, .invokevirtual 72, 3) := by decide +kernel
theorem i68_25 : zfetch 68 25 = some (7, .ireturn, 1) := by decide +kernel
theorem i69_0 : zfetch 69 0 = some (7, .iload_n 3, 1) := by decide +kernel
theorem i69_1 : zfetch 69 1 = some (7, .iconst 1, 1) := by decide +kernel
theorem i69_2 : zfetch 69 2 = some (7, .if_icmp .lt 9, 3) := by decide +kernel
theorem i69_5 : zfetch 69 5 = some (7, .iload_n 3, 1) := by decide +kernel
theorem i69_6 : zfetch 69 6 = some (7, .bipush 8, 2) := by decide +kernel
theorem i69_8 : zfetch 69 8 = some (7, .if_icmp .le 9, 3) := by decide +kernel
theorem i69_11 : zfetch 69 11 = some (7, .aload_n 0, 1) := by decide +kernel
theorem i69_12 : zfetch 69 12 = some (7, .iconst 1, 1) := by decide +kernel
theorem i69_13 : zfetch 69 13 = some (7, .invokevirtual 72, 3) := by decide +kernel
theorem i69_16 : zfetch 69 16 = some (7, .ireturn, 1) := by decide +kernel
theorem i69_17 : zfetch 69 17 = some (7, .iload_n 3, 1) := by decide +kernel
theorem i69_18 : zfetch 69 18 = some (7, .bipush 60, 2) := by decide +kernel
theorem i69_20 : zfetch 69 20 = some (7, .aload_n 0, 1) := by decide +kernel
theorem i69_21 : zfetch 69 21 = some (7, .getfield 10, 3) := by decide +kernel
theorem i69_24 : zfetch 69 24 = some (7, .getfield 124, 3) := by decide +kernel
theorem i69_27 : zfetch 69 27 = some (7, .getfield 128, 3) := by decide +kernel
theorem i69_30 : zfetch 69 30 = some (7, .isub, 1) := by decide +kernel
theorem i69_31 : zfetch 69 31 = some (7, .if_icmp .le 9, 3) := by decide +kernel
theorem i69_34 : zfetch 69 34 = some (7, .aload_n 0, 1) := by decide +kernel
theorem i69_35 : zfetch 69 35 = some (7, .iconst 4, 1) := by decide +kernel
theorem i69_36 : zfetch 69 36 = some (7, .invokevirtual 72, 3) := by decide +kernel
theorem i69_39 : zfetch 69 39 = some (7, .ireturn, 1) := by decide +kernel
theorem i69_40 : zfetch 69 40 = some (7, .iconst 0, 1) := by decide +kernel
theorem i69_41 : zfetch 69 41 = some (7, .istore 4, 2) := by decide +kernel
theorem i69_43 : zfetch 69 43 = some (7, .iload 4, 2) := by decide +kernel
theorem i69_45 : zfetch 69 45 = some (7, .iload_n 3, 1) := by decide +kernel
theorem i69_46 : zfetch 69 46 = some (7, .if_icmp .ge 31, 3) := by decide +kernel
theorem i69_49 : zfetch 69 49 = some (7, .aload_n 0, 1) := by decide +kernel
theorem i69_50 : zfetch 69 50 = some (7, .getfield 10, 3) := by decide +kernel
theorem i69_53 : zfetch 69 53 = some (7, .getfield 124, 3) := by decide +kernel
theorem i69_56 : zfetch 69 56 = some (7, .lload_n 1, 1) := by decide +kernel
theorem i69_57 : zfetch 69 57 = some (7, .bipush 8, 2) := by decide +kernel
theorem i69_59 : zfetch 69 59 = some (7, .iload 4, 2) := by decide +kernel
theorem i69_61 : zfetch 69 61 = some (7, .imul, 1) := by decide +kernel
theorem i69_62 : zfetch 69 62 = some (7, .lushr, 1) := by decide +kernel
theorem i69_63 : zfetch 69 63 = some (7, .l2i, 1) := by decide +kernel
theorem i69_64 : zfetch 69 64 = some (7, .sipush 255, 3) := by decide +kernel
theorem i69_67 : zfetch 69 67 = some (7, .iand, 1) := by decide +kernel
theorem i69_68 : zfetch 69 68 = some (7, .invokevirtual 133, 3) := by decide +kernel
theorem i69_71 : zfetch 69 71 = some (7, .iinc 4 1, 3) := by decide +kernel
theorem i69_74 : zfetch 69 74 = some (7, .goto (-31), 3) := by decide +kernel
theorem i69_77 : zfetch 69 77 = some (7, .aload_n 0, 1) := by decide +kernel
theorem i69_78 : zfetch 69 78 = some (7, .getfield 10, 3) := by decide +kernel
theorem i69_81 : zfetch 69 81 = some (7, .getfield 124, 3) := by decide +kernel
theorem i69_84 : zfetch 69 84 = some (7, .getfield 128, 3) := by decide +kernel
theorem i69_87 : zfetch 69 87 = some (7, .ireturn, 1) := by decide +kernel
theorem i70_0 : zfetch 70 0 = some (7, .iload_n 1, 1) := by decide +kernel
theorem i70_1 : zfetch 70 1 = some (7, .iconst 1, 1) := by decide +kernel
theorem i70_2 : zfetch 70 2 = some (7, .invokestatic 64, 3) := by decide +kernel
theorem i70_5 : zfetch 70 5 = some (7, .ifCond .ne 9, 3) := by decide +kernel
theorem i70_8 : zfetch 70 8 = some (7, .aload_n 0, 1) := by decide +kernel
theorem i70_9 : zfetch 70 9 = some (7, .iconst 1, 1) := by decide +kernel
theorem i70_10 : zfetch 70 10 = some (7, .invokevirtual 72, 3) := by decide +kernel
theorem i70_13 : zfetch 70 13 = some (7, .ireturn, 1) := by decide +kernel
theorem i70_14 : zfetch 70 14 = some (7, .aload_n 0, 1) := by decide +kernel
theorem i70_15 : zfetch 70 15 = some (7, .getfield 22, 3) := by decide +kernel
theorem i70_18 : zfetch 70 18 = some (7, .aload_n 0, 1) := by decide +kernel
theorem i70_19 : zfetch 70 19 = some (7, .getfield 10, 3) := by decide +kernel
theorem i70_22 : zfetch 70 22 = some (7, .getfield 124, 3) := by decide +kernel
theorem i70_25 : zfetch 70 25 = some (7, .iload_n 1, 1) := by decide +kernel
theorem i70_26 : zfetch 70 26 = some (7, .invokevirtual 135, 3) := by decide +kernel
theorem i70_29 : zfetch 70 29 = some (7, .istore_n 2, 1) := by decide +kernel
theorem i70_30 : zfetch 70 30 = some (7, .aload_n 0, 1) := by decide +kernel
theorem i70_31 : zfetch 70 31 = some (7, .getfield 10, 3) := by decide +kernel
theorem i70_34 : zfetch 70 34 = some (7, .getfield 124, 3) := by decide +kernel
theorem i70_37 : zfetch 70 37 = some (7, .iconst 0, 1) := by decide +kernel
theorem i70_38 : zfetch 70 38 = some (7, .putfield 128, 3) := by decide +kernel
theorem i70_41 : zfetch 70 41 = some (7, .iload_n 2, 1) := by decide +kernel
theorem i70_42 : zfetch 70 42 = some (7, .ifCond .lt 8, 3) := by decide +kernel
theorem i70_45 : zfetch 70 45 = some (7, .bipush (-10), 2) := by decide +kernel
theorem i70_47 : zfetch 70 47 = some (7, .iload_n 2, 1) := by decide +kernel
theorem i70_48 : zfetch 70 48 = some (7, .isub, 1) := by decide +kernel
theorem i70_49 : zfetch 70 49 = some (7, .ireturn, 1) := by decide +kernel
theorem i70_50 : zfetch 70 50 = some (7, .aload_n 0, 1) := by decide +kernel
theorem i70_51 : zfetch 70 51 = some (7, .iload_n 1, 1) := by decide +kernel
theorem i70_52 : zfetch 70 52 = some (7, .invokevirtual 139, 3) := by decide +kernel
theorem i70_55 : zfetch 70 55 = some (7, .aload_n 0, 1) := by decide +kernel
theorem i70_56 : zfetch 70 56 = some (7, .getfield 22, 3) := by decide +kernel
theorem i70_59 : zfetch 70 59 = some (7, .getfield 143, 3) := by decide +kernel
theorem i70_62 : zfetch 70 62 = some (7, .aload_n 0, 1) := by decide +kernel
theorem i70_63 : zfetch 70 63 = some (7, .getfield 22, 3) := by decide +kernel
theorem i70_66 : zfetch 70 66 = some (7, .getfield 146, 3) := by decide +kernel
theorem i70_69 : zfetch 70 69 = some (7, .invokevirtual 147, 3) := by decide +kernel
theorem i70_72 : zfetch 70 72 = some (7, .iconst 1, 1) := by decide +kernel
theorem i70_73 : zfetch 70 73 = some (7, .ireturn, 1) := by decide +kernel
theorem i71_0 : zfetch 71 0 = some (7, .iload_n 1, 1) := by decide +kernel
theorem i71_1 : zfetch 71 1 = some (7, .iconst 1, 1) := by decide +kernel
theorem i71_2 : zfetch 71 2 = some (7, .invokestatic 64, 3) := by decide +kernel
theorem i71_5 : zfetch 71 5 = some (7, .ifCond .ne 9, 3) := by decide +kernel
theorem i71_8 : zfetch 71 8 = some (7, .aload_n 0, 1) := by decide +kernel
theorem i71_9 : zfetch 71 9 = some (7, .iconst 1, 1) := by decide +kernel
theorem i71_10 : zfetch 71 10 = some (7, .invokevirtual 72, 3) := by decide +kernel
theorem i71_13 : zfetch 71 13 = some (7, .ireturn, 1) := by decide +kernel
theorem i71_14 : zfetch 71 14 = some (7, .aload_n 0, 1) := by decide +kernel
theorem i71_15 : zfetch 71 15 = some (7, .iload_n 1, 1) := by decide +kernel
theorem i71_16 : zfetch 71 16 = some (7, .invokevirtual 139, 3) := by decide +kernel
theorem i71_19 : zfetch 71 19 = some (7, .getfield 153, 3) := by decide +kernel
theorem i71_22 : zfetch 71 22 = some (7, .ifCond .le 7, 3) := by decide +kernel
theorem i71_25 : zfetch 71 25 = some (7, .iconst 1, 1) := by decide +kernel
theorem i71_26 : zfetch 71 26 = some (7, .goto 4, 3) := by decide +kernel
theorem i71_29 : zfetch 71 29 = some (7, .iconst 0, 1) := by decide +kernel
theorem i71_30 : zfetch 71 30 = some (7, .istore_n 2, 1) := by decide +kernel
theorem i71_31 : zfetch 71 31 = some (7, .aload_n 0, 1) := by decide +kernel
theorem i71_32 : zfetch 71 32 = some (7, .iload_n 1, 1) := by decide +kernel
theorem i71_33 : zfetch 71 33 = some (7, .invokevirtual 139, 3) := by decide +kernel
theorem i71_36 : zfetch 71 36 = some (7, .iconst 0, 1) := by decide +kernel
theorem i71_37 : zfetch 71 37 = some (7, .putfield 153, 3) := by decide +kernel
theorem i71_40 : zfetch 71 40 = some (7, .iload_n 2, 1) := by decide +kernel
theorem i71_41 : zfetch 71 41 = some (7, .ireturn, 1) := by decide +kernel
theorem i72_0 : zfetch 72 0 = some (7, .iload_n 1, 1) := by decide +kernel
theorem i72_1 : zfetch 72 1 = some (7, .iconst 1, 1) := by decide +kernel
theorem i72_2 : zfetch 72 2 = some (7, .invokestatic 64, 3) := by decide +kernel
theorem i72_5 : zfetch 72 5 = some (7, .ifCond .eq 18, 3) := by decide +kernel
theorem i72_8 : zfetch 72 8 = some (7, .aload_n 0, 1) := by decide +kernel
theorem i72_9 : zfetch 72 9 = some (7, .iload_n 1, 1) := by decide +kernel
theorem i72_10 : zfetch 72 10 = some (7, .invokevirtual 139, 3) := by decide +kernel
theorem i72_13 : zfetch 72 13 = some (7, .iload_n 2, 1) := by decide +kernel
theorem i72_14 : zfetch 72 14 = some (7, .iload_n 3, 1) := by decide +kernel
theorem i72_15 : zfetch 72 15 = some (7, .iload 4, 2) := by decide +kernel
theorem i72_17 : zfetch 72 17 = some (7, .invokevirtual 154, 3) := by decide +kernel
theorem i72_20 : zfetch 72 20 = some (7, .goto 8, 3) := by decide +kernel
theorem i72_23 : zfetch 72 23 = some (7, .aload_n 0, 1) := by decide +kernel
theorem i72_24 : zfetch 72 24 = some (7, .iconst 1, 1) := by decide +kernel
theorem i72_25 : zfetch 72 25 = some (7, .invokevirtual 72, 3) := by decide +kernel
theorem i72_28 : zfetch 72 28 = some (7, .ireturn, 1) := by decide +kernel
theorem i73_0 : zfetch 73 0 = some (7, .iload_n 1, 1) := by decide +kernel
theorem i73_1 : zfetch 73 1 = some (7, .iconst 1, 1) := by decide +kernel
theorem i73_2 : zfetch 73 2 = some (7, .if_icmp .lt 9, 3) := by decide +kernel
theorem i73_5 : zfetch 73 5 = some (7, .iload_n 1, 1) := by decide +kernel
theorem i73_6 : zfetch 73 6 = some (7, .bipush 60, 2) := by decide +kernel
theorem i73_8 : zfetch 73 8 = some (7, .if_icmp .le 9, 3) := by decide +kernel
theorem i73_11 : zfetch 73 11 = some (7, .aload_n 0, 1) := by decide +kernel
theorem i73_12 : zfetch 73 12 = some (7, .iconst 1, 1) := by decide +kernel
theorem i73_13 : zfetch 73 13 = some (7, .invokevirtual 72, 3) := by decide +kernel
theorem i73_16 : zfetch 73 16 = some (7, .ireturn, 1) := by decide +kernel
theorem i73_17 : zfetch 73 17 = some (7, .aload_n 0, 1) := by decide +kernel
theorem i73_18 : zfetch 73 18 = some (7, .getfield 47, 3) := by decide +kernel
theorem i73_21 : zfetch 73 21 = some (7, .getfield 158, 3) := by decide +kernel
theorem i73_24 : zfetch 73 24 = some (7, .iload_n 1, 1) := by decide +kernel
theorem i73_25 : zfetch 73 25 = some (7, .iadd, 1) := by decide +kernel
theorem i73_26 : zfetch 73 26 = some (7, .sipush 9999, 3) := by decide +kernel
theorem i73_29 : zfetch 73 29 = some (7, .if_icmp .le 9, 3) := by decide +kernel
theorem i73_32 : zfetch 73 32 = some (7, .aload_n 0, 1) := by decide +kernel
theorem i73_33 : zfetch 73 33 = some (7, .iconst 3, 1) := by decide +kernel
theorem i73_34 : zfetch 73 34 = some (7, .invokevirtual 72, 3) := by decide +kernel
theorem i73_37 : zfetch 73 37 = some (7, .ireturn, 1) := by decide +kernel
theorem i73_38 : zfetch 73 38 = some (7, .aload_n 0, 1) := by decide +kernel
theorem i73_39 : zfetch 73 39 = some (7, .getfield 47, 3) := by decide +kernel
theorem i73_42 : zfetch 73 42 = some (7, .iload_n 1, 1) := by decide +kernel
theorem i73_43 : zfetch 73 43 = some (7, .invokevirtual 161, 3) := by decide +kernel
theorem i73_46 : zfetch 73 46 = some (7, .aload_n 0, 1) := by decide +kernel
theorem i73_47 : zfetch 73 47 = some (7, .getfield 47, 3) := by decide +kernel
theorem i73_50 : zfetch 73 50 = some (7, .getfield 164, 3) := by decide +kernel
theorem i73_53 : zfetch 73 53 = some (7, .ireturn, 1) := by decide +kernel
theorem i74_0 : zfetch 74 0 = some (7, .iload_n 1, 1) := by decide +kernel
theorem i74_1 : zfetch 74 1 = some (7, .iconst 1, 1) := by decide +kernel
theorem i74_2 : zfetch 74 2 = some (7, .if_icmp .lt 9, 3) := by decide +kernel
theorem i74_5 : zfetch 74 5 = some (7, .iload_n 1, 1) := by decide +kernel
theorem i74_6 : zfetch 74 6 = some (7, .bipush 30, 2) := by decide +kernel
theorem i74_8 : zfetch 74 8 = some (7, .if_icmp .le 9, 3) := by decide +kernel
theorem i74_11 : zfetch 74 11 = some (7, .aload_n 0, 1) := by decide +kernel
theorem i74_12 : zfetch 74 12 = some (7, .iconst 1, 1) := by decide +kernel
theorem i74_13 : zfetch 74 13 = some (7, .invokevirtual 72, 3) := by decide +kernel
theorem i74_16 : zfetch 74 16 = some (7, .ireturn, 1) := by decide +kernel
theorem i74_17 : zfetch 74 17 = some (7, .aload_n 0, 1) := by decide +kernel
theorem i74_18 : zfetch 74 18 = some (7, .getfield 47, 3) := by decide +kernel
theorem i74_21 : zfetch 74 21 = some (7, .getfield 158, 3) := by decide +kernel
theorem i74_24 : zfetch 74 24 = some (7, .iload_n 1, 1) := by decide +kernel
theorem i74_25 : zfetch 74 25 = some (7, .iadd, 1) := by decide +kernel
theorem i74_26 : zfetch 74 26 = some (7, .sipush 9999, 3) := by decide +kernel
theorem i74_29 : zfetch 74 29 = some (7, .if_icmp .le 9, 3) := by decide +kernel
theorem i74_32 : zfetch 74 32 = some (7, .aload_n 0, 1) := by decide +kernel
theorem i74_33 : zfetch 74 33 = some (7, .iconst 3, 1) := by decide +kernel
theorem i74_34 : zfetch 74 34 = some (7, .invokevirtual 72, 3) := by decide +kernel
theorem i74_37 : zfetch 74 37 = some (7, .ireturn, 1) := by decide +kernel
theorem i74_38 : zfetch 74 38 = some (7, .iconst 0, 1) := by decide +kernel
theorem i74_39 : zfetch 74 39 = some (7, .istore_n 2, 1) := by decide +kernel
theorem i74_40 : zfetch 74 40 = some (7, .iload_n 2, 1) := by decide +kernel
theorem i74_41 : zfetch 74 41 = some (7, .iload_n 1, 1) := by decide +kernel
theorem i74_42 : zfetch 74 42 = some (7, .if_icmp .ge 23, 3) := by decide +kernel
theorem i74_45 : zfetch 74 45 = some (7, .aload_n 0, 1) := by decide +kernel
theorem i74_46 : zfetch 74 46 = some (7, .getfield 47, 3) := by decide +kernel
theorem i74_49 : zfetch 74 49 = some (7, .invokevirtual 167, 3) := by decide +kernel
theorem i74_52 : zfetch 74 52 = some (7, .aload_n 0, 1) := by decide +kernel
theorem i74_53 : zfetch 74 53 = some (7, .getfield 47, 3) := by decide +kernel
theorem i74_56 : zfetch 74 56 = some (7, .invokevirtual 170, 3) := by decide +kernel
theorem i74_59 : zfetch 74 59 = some (7, .iinc 2 1, 3) := by decide +kernel
theorem i74_62 : zfetch 74 62 = some (7, .goto (-22), 3) := by decide +kernel
theorem i74_65 : zfetch 74 65 = some (7, .aload_n 0, 1) := by decide +kernel
theorem i74_66 : zfetch 74 66 = some (7, .getfield 47, 3) := by decide +kernel
theorem i74_69 : zfetch 74 69 = some (7, .getfield 164, 3) := by decide +kernel
theorem i74_72 : zfetch 74 72 = some (7, .ireturn, 1) := by decide +kernel
theorem i75_0 : zfetch 75 0 = some (7, .iload_n 1, 1) := by decide +kernel
theorem i75_1 : zfetch 75 1 = some (7, .sipush 9999, 3) := by decide +kernel
theorem i75_4 : zfetch 75 4 = some (7, .invokestatic 64, 3) := by decide +kernel
theorem i75_7 : zfetch 75 7 = some (7, .ifCond .ne 9, 3) := by decide +kernel
theorem i75_10 : zfetch 75 10 = some (7, .aload_n 0, 1) := by decide +kernel
theorem i75_11 : zfetch 75 11 = some (7, .iconst 1, 1) := by decide +kernel
theorem i75_12 : zfetch 75 12 = some (7, .invokevirtual 72, 3) := by decide +kernel
theorem i75_15 : zfetch 75 15 = some (7, .ireturn, 1) := by decide +kernel
theorem i75_16 : zfetch 75 16 = some (7, .aload_n 0, 1) := by decide +kernel
theorem i75_17 : zfetch 75 17 = some (7, .getfield 47, 3) := by decide +kernel
theorem i75_20 : zfetch 75 20 = some (7, .getfield 158, 3) := by decide +kernel
theorem i75_23 : zfetch 75 23 = some (7, .istore_n 2, 1) := by decide +kernel
theorem i75_24 : zfetch 75 24 = some (7, .aload_n 0, 1) := by decide +kernel
theorem i75_25 : zfetch 75 25 = some (7, .getfield 47, 3) := by decide +kernel
theorem i75_28 : zfetch 75 28 = some (7, .iload_n 1, 1) := by decide +kernel
theorem i75_29 : zfetch 75 29 = some (7, .putfield 158, 3) := by decide +kernel
theorem i75_32 : zfetch 75 32 = some (7, .iload_n 2, 1) := by decide +kernel
theorem i75_33 : zfetch 75 33 = some (7, .ireturn, 1) := by decide +kernel
theorem i76_0 : zfetch 76 0 = some (7, .aload_n 0, 1) := by decide +kernel
theorem i76_1 : zfetch 76 1 = some (7, .getfield 47, 3) := by decide +kernel
theorem i76_4 : zfetch 76 4 = some (7, .getfield 173, 3) := by decide +kernel
theorem i76_7 : zfetch 76 7 = some (7, .istore_n 2, 1) := by decide +kernel
theorem i76_8 : zfetch 76 8 = some (7, .aload_n 0, 1) := by decide +kernel
theorem i76_9 : zfetch 76 9 = some (7, .getfield 47, 3) := by decide +kernel
theorem i76_12 : zfetch 76 12 = some (7, .iload_n 1, 1) := by decide +kernel
theorem i76_13 : zfetch 76 13 = some (7, .putfield 173, 3) := by decide +kernel
theorem i76_16 : zfetch 76 16 = some (7, .iload_n 2, 1) := by decide +kernel
theorem i76_17 : zfetch 76 17 = some (7, .ireturn, 1) := by decide +kernel
theorem i77_0 : zfetch 77 0 = some (7, .aload_n 0, 1) := by decide +kernel
theorem i77_1 : zfetch 77 1 = some (7, .iload_n 1, 1) := by decide +kernel
theorem i77_2 : zfetch 77 2 = some (7, .invokevirtual 68, 3) := by decide +kernel
theorem i77_5 : zfetch 77 5 = some (7, .ifCond .eq 14, 3) := by decide +kernel
theorem i77_8 : zfetch 77 8 = some (7, .aload_n 0, 1) := by decide +kernel
theorem i77_9 : zfetch 77 9 = some (7, .getfield 47, 3) := by decide +kernel
theorem i77_12 : zfetch 77 12 = some (7, .iload_n 1, 1) := by decide +kernel
theorem i77_13 : zfetch 77 13 = some (7, .invokevirtual 176, 3) := by decide +kernel
theorem i77_16 : zfetch 77 16 = some (7, .goto 8, 3) := by decide +kernel
theorem i77_19 : zfetch 77 19 = some (7, .aload_n 0, 1) := by decide +kernel
theorem i77_20 : zfetch 77 20 = some (7, .iconst 1, 1) := by decide +kernel
theorem i77_21 : zfetch 77 21 = some (7, .invokevirtual 72, 3) := by decide +kernel
theorem i77_24 : zfetch 77 24 = some (7, .ireturn, 1) := by decide +kernel
theorem i78_0 : zfetch 78 0 = some (7, .aload_n 0, 1) := by decide +kernel
theorem i78_1 : zfetch 78 1 = some (7, .iload_n 1, 1) := by decide +kernel
theorem i78_2 : zfetch 78 2 = some (7, .invokevirtual 68, 3) := by decide +kernel
theorem i78_5 : zfetch 78 5 = some (7, .ifCond .eq 11, 3) := by decide +kernel
theorem i78_8 : zfetch 78 8 = some (7, .aload_n 0, 1) := by decide +kernel
theorem i78_9 : zfetch 78 9 = some (7, .iload_n 2, 1) := by decide +kernel
theorem i78_10 : zfetch 78 10 = some (7, .invokevirtual 68, 3) := by decide +kernel
theorem i78_13 : zfetch 78 13 = some (7, .ifCond .ne 9, 3) := by decide +kernel
theorem i78_16 : zfetch 78 16 = some (7, .aload_n 0, 1) := by decide +kernel
theorem i78_17 : zfetch 78 17 = some (7, .iconst 1, 1) := by decide +kernel
theorem i78_18 : zfetch 78 18 = some (7, .invokevirtual 72, 3) := by decide +kernel
theorem i78_21 : zfetch 78 21 = some (7, .ireturn, 1) := by decide +kernel
theorem i78_22 : zfetch 78 22 = some (7, .aload_n 0, 1) := by decide +kernel
theorem i78_23 : zfetch 78 23 = some (7, .getfield 47, 3) := by decide +kernel
theorem i78_26 : zfetch 78 26 = some (7, .iload_n 1, 1) := by decide +kernel
theorem i78_27 : zfetch 78 27 = some (7, .invokevirtual 176, 3) := by decide +kernel
theorem i78_30 : zfetch 78 30 = some (7, .aload_n 0, 1) := by decide +kernel
theorem i78_31 : zfetch 78 31 = some (7, .getfield 47, 3) := by decide +kernel
theorem i78_34 : zfetch 78 34 = some (7, .iload_n 2, 1) := by decide +kernel
theorem i78_35 : zfetch 78 35 = some (7, .invokevirtual 176, 3) := by decide +kernel
theorem i78_38 : zfetch 78 38 = some (7, .iand, 1) := by decide +kernel
theorem i78_39 : zfetch 78 39 = some (7, .istore_n 3, 1) := by decide +kernel
theorem i78_40 : zfetch 78 40 = some (7, .iload_n 3, 1) := by decide +kernel
theorem i78_41 : zfetch 78 41 = some (7, .ifCond .ne 9, 3) := by decide +kernel
theorem i78_44 : zfetch 78 44 = some (7, .aload_n 0, 1) := by decide +kernel
theorem i78_45 : zfetch 78 45 = some (7, .iconst 2, 1) := by decide +kernel
theorem i78_46 : zfetch 78 46 = some (7, .invokevirtual 72, 3) := by decide +kernel
theorem i78_49 : zfetch 78 49 = some (7, .ireturn, 1) := by decide +kernel
theorem i78_50 : zfetch 78 50 = some (7, .aload_n 0, 1) := by decide +kernel
theorem i78_51 : zfetch 78 51 = some (7, .getfield 47, 3) := by decide +kernel
theorem i78_54 : zfetch 78 54 = some (7, .iload_n 1, 1) := by decide +kernel
theorem i78_55 : zfetch 78 55 = some (7, .iload_n 3, 1) := by decide +kernel
theorem i78_56 : zfetch 78 56 = some (7, .invokevirtual 179, 3) := by decide +kernel
theorem i78_59 : zfetch 78 59 = some (7, .aload_n 0, 1) := by decide +kernel
theorem i78_60 : zfetch 78 60 = some (7, .getfield 47, 3) := by decide +kernel
theorem i78_63 : zfetch 78 63 = some (7, .iload_n 2, 1) := by decide +kernel
theorem i78_64 : zfetch 78 64 = some (7, .iload_n 3, 1) := by decide +kernel
theorem i78_65 : zfetch 78 65 = some (7, .invokevirtual 179, 3) := by decide +kernel
theorem i78_68 : zfetch 78 68 = some (7, .iadd, 1) := by decide +kernel
theorem i78_69 : zfetch 78 69 = some (7, .ireturn, 1) := by decide +kernel
theorem i79_0 : zfetch 79 0 = some (7, .iload_n 1, 1) := by decide +kernel
theorem i79_1 : zfetch 79 1 = some (7, .bipush 63, 2) := by decide +kernel
theorem i79_3 : zfetch 79 3 = some (7, .invokestatic 64, 3) := by decide +kernel
theorem i79_6 : zfetch 79 6 = some (7, .ifCond .eq 14, 3) := by decide +kernel
theorem i79_9 : zfetch 79 9 = some (7, .aload_n 0, 1) := by decide +kernel
theorem i79_10 : zfetch 79 10 = some (7, .getfield 47, 3) := by decide +kernel
theorem i79_13 : zfetch 79 13 = some (7, .iload_n 1, 1) := by decide +kernel
theorem i79_14 : zfetch 79 14 = some (7, .invokevirtual 183, 3) := by decide +kernel
theorem i79_17 : zfetch 79 17 = some (7, .goto 8, 3) := by decide +kernel
theorem i79_20 : zfetch 79 20 = some (7, .aload_n 0, 1) := by decide +kernel
theorem i79_21 : zfetch 79 21 = some (7, .iconst 1, 1) := by decide +kernel
theorem i79_22 : zfetch 79 22 = some (7, .invokevirtual 72, 3) := by decide +kernel
theorem i79_25 : zfetch 79 25 = some (7, .ireturn, 1) := by decide +kernel
theorem i80_0 : zfetch 80 0 = some (7, .iload_n 1, 1) := by decide +kernel
theorem i80_1 : zfetch 80 1 = some (7, .iconst 1, 1) := by decide +kernel
theorem i80_2 : zfetch 80 2 = some (7, .invokestatic 64, 3) := by decide +kernel
theorem i80_5 : zfetch 80 5 = some (7, .ifCond .ne 9, 3) := by decide +kernel
theorem i80_8 : zfetch 80 8 = some (7, .aload_n 0, 1) := by decide +kernel
theorem i80_9 : zfetch 80 9 = some (7, .iconst 1, 1) := by decide +kernel
theorem i80_10 : zfetch 80 10 = some (7, .invokevirtual 72, 3) := by decide +kernel
theorem i80_13 : zfetch 80 13 = some (7, .ireturn, 1) := by decide +kernel
theorem i80_14 : zfetch 80 14 = some (7, .iconst 0, 1) := by decide +kernel
theorem i80_15 : zfetch 80 15 = some (7, .istore_n 2, 1) := by decide +kernel
theorem i80_16 : zfetch 80 16 = some (7, .iconst 0, 1) := by decide +kernel
theorem i80_17 : zfetch 80 17 = some (7, .istore_n 3, 1) := by decide +kernel
theorem i80_18 : zfetch 80 18 = some (7, .iconst 0, 1) := by decide +kernel
theorem i80_19 : zfetch 80 19 = some (7, .istore 4, 2) := by decide +kernel
theorem i80_21 : zfetch 80 21 = some (7, .iload 4, 2) := by decide +kernel
theorem i80_23 : zfetch 80 23 = some (7, .bipush 63, 2) := by decide +kernel
theorem i80_25 : zfetch 80 25 = some (7, .if_icmp .gt 35, 3) := by decide +kernel
theorem i80_28 : zfetch 80 28 = some (7, .aload_n 0, 1) := by decide +kernel
theorem i80_29 : zfetch 80 29 = some (7, .getfield 47, 3) := by decide +kernel
theorem i80_32 : zfetch 80 32 = some (7, .iload 4, 2) := by decide +kernel
theorem i80_34 : zfetch 80 34 = some (7, .invokevirtual 183, 3) := by decide +kernel
theorem i80_37 : zfetch 80 37 = some (7, .invokestatic 186, 3) := by decide +kernel
theorem i80_40 : zfetch 80 40 = some (7, .istore 5, 2) := by decide +kernel
theorem i80_42 : zfetch 80 42 = some (7, .iload 5, 2) := by decide +kernel
theorem i80_44 : zfetch 80 44 = some (7, .iload_n 3, 1) := by decide +kernel
theorem i80_45 : zfetch 80 45 = some (7, .if_icmp .le 9, 3) := by decide +kernel
theorem i80_48 : zfetch 80 48 = some (7, .iload 4, 2) := by decide +kernel
theorem i80_50 : zfetch 80 50 = some (7, .istore_n 2, 1) := by decide +kernel
theorem i80_51 : zfetch 80 51 = some (7, .iload 5, 2) := by decide +kernel
theorem i80_53 : zfetch 80 53 = some (7, .istore_n 3, 1) := by decide +kernel
theorem i80_54 : zfetch 80 54 = some (7, .iinc 4 1, 3) := by decide +kernel
theorem i80_57 : zfetch 80 57 = some (7, .goto (-36), 3) := by decide +kernel
theorem i80_60 : zfetch 80 60 = some (7, .iload_n 1, 1) := by decide +kernel
theorem i80_61 : zfetch 80 61 = some (7, .ifCond .ne 7, 3) := by decide +kernel
theorem i80_64 : zfetch 80 64 = some (7, .iload_n 2, 1) := by decide +kernel
theorem i80_65 : zfetch 80 65 = some (7, .goto 4, 3) := by decide +kernel
theorem i80_68 : zfetch 80 68 = some (7, .iload_n 3, 1) := by decide +kernel
theorem i80_69 : zfetch 80 69 = some (7, .ireturn, 1) := by decide +kernel
theorem i81_0 : zfetch 81 0 = some (7, .iconst 0, 1) := by decide +kernel
theorem i81_1 : zfetch 81 1 = some (7, .istore_n 1, 1) := by decide +kernel
theorem i81_2 : zfetch 81 2 = some (7, .iconst 0, 1) := by decide +kernel
theorem i81_3 : zfetch 81 3 = some (7, .istore_n 2, 1) := by decide +kernel
theorem i81_4 : zfetch 81 4 = some (7, .iload_n 2, 1) := by decide +kernel
theorem i81_5 : zfetch 81 5 = some (7, .aload_n 0, 1) := by decide +kernel
theorem i81_6 : zfetch 81 6 = some (7, .getfield 47, 3) := by decide +kernel
theorem i81_9 : zfetch 81 9 = some (7, .getfield 76, 3) := by decide +kernel
theorem i81_12 : zfetch 81 12 = some (7, .if_icmp .ge 37, 3) := by decide +kernel
theorem i81_15 : zfetch 81 15 = some (7, .iconst 0, 1) := by decide +kernel
theorem i81_16 : zfetch 81 16 = some (7, .istore_n 3, 1) := by decide +kernel
theorem i81_17 : zfetch 81 17 = some (7, .iload_n 3, 1) := by decide +kernel
theorem i81_18 : zfetch 81 18 = some (7, .iload_n 2, 1) := by decide +kernel
theorem i81_19 : zfetch 81 19 = some (7, .if_icmp .ge 24, 3) := by decide +kernel
theorem i81_22 : zfetch 81 22 = some (7, .aload_n 0, 1) := by decide +kernel
theorem i81_23 : zfetch 81 23 = some (7, .getfield 47, 3) := by decide +kernel
theorem i81_26 : zfetch 81 26 = some (7, .iload_n 2, 1) := by decide +kernel
theorem i81_27 : zfetch 81 27 = some (7, .iload_n 3, 1) := by decide +kernel
theorem i81_28 : zfetch 81 28 = some (7, .invokevirtual 191, 3) := by decide +kernel
theorem i81_31 : zfetch 81 31 = some (7, .ifCond .eq 6, 3) := by decide +kernel
theorem i81_34 : zfetch 81 34 = some (7, .iinc 1 1, 3) := by decide +kernel
theorem i81_37 : zfetch 81 37 = some (7, .iinc 3 1, 3) := by decide +kernel
theorem i81_40 : zfetch 81 40 = some (7, .goto (-23), 3) := by decide +kernel
theorem i81_43 : zfetch 81 43 = some (7, .iinc 2 1, 3) := by decide +kernel
theorem i81_46 : zfetch 81 46 = some (7, .goto (-42), 3) := by decide +kernel
theorem i81_49 : zfetch 81 49 = some (7, .iload_n 1, 1) := by decide +kernel
theorem i81_50 : zfetch 81 50 = some (7, .ireturn, 1) := by decide +kernel
theorem i82_0 : zfetch 82 0 = some (7, .aload_n 0, 1) := by decide +kernel
theorem i82_1 : zfetch 82 1 = some (7, .iload_n 1, 1) := by decide +kernel
theorem i82_2 : zfetch 82 2 = some (7, .invokevirtual 68, 3) := by decide +kernel
theorem i82_5 : zfetch 82 5 = some (7, .ifCond .eq 12, 3) := by decide +kernel
theorem i82_8 : zfetch 82 8 = some (7, .iload_n 2, 1) := by decide +kernel
theorem i82_9 : zfetch 82 9 = some (7, .bipush 60, 2) := by decide +kernel
theorem i82_11 : zfetch 82 11 = some (7, .invokestatic 64, 3) := by decide +kernel
theorem i82_14 : zfetch 82 14 = some (7, .ifCond .ne 9, 3) := by decide +kernel
theorem i82_17 : zfetch 82 17 = some (7, .aload_n 0, 1) := by decide +kernel
theorem i82_18 : zfetch 82 18 = some (7, .iconst 1, 1) := by decide +kernel
theorem i82_19 : zfetch 82 19 = some (7, .invokevirtual 72, 3) := by decide +kernel
theorem i82_22 : zfetch 82 22 = some (7, .ireturn, 1) := by decide +kernel
theorem i82_23 : zfetch 82 23 = some (7, .aload_n 0, 1) := by decide +kernel
theorem i82_24 : zfetch 82 24 = some (7, .getfield 60, 3) := by decide +kernel
theorem i82_27 : zfetch 82 27 = some (7, .aload_n 0, 1) := by decide +kernel
theorem i82_28 : zfetch 82 28 = some (7, .getfield 47, 3) := by decide +kernel
theorem i82_31 : zfetch 82 31 = some (7, .invokevirtual 194, 3) := by decide +kernel
theorem i82_34 : zfetch 82 34 = some (7, .aload_n 0, 1) := by decide +kernel
theorem i82_35 : zfetch 82 35 = some (7, .getfield 60, 3) := by decide +kernel
theorem i82_38 : zfetch 82 38 = some (7, .iload_n 2, 1) := by decide +kernel
theorem i82_39 : zfetch 82 39 = some (7, .invokevirtual 161, 3) := by decide +kernel
theorem i82_42 : zfetch 82 42 = some (7, .aload_n 0, 1) := by decide +kernel
theorem i82_43 : zfetch 82 43 = some (7, .getfield 60, 3) := by decide +kernel
theorem i82_46 : zfetch 82 46 = some (7, .getfield 93, 3) := by decide +kernel
theorem i82_49 : zfetch 82 49 = some (7, .iload_n 1, 1) := by decide +kernel
theorem i82_50 : zfetch 82 50 = some (7, .iaload, 1) := by decide +kernel
theorem i82_51 : zfetch 82 51 = some (7, .ireturn, 1) := by decide +kernel
theorem i83_0 : zfetch 83 0 = some (7, .iload_n 1, 1) := by decide +kernel
theorem i83_1 : zfetch 83 1 = some (7, .bipush 60, 2) := by decide +kernel
theorem i83_3 : zfetch 83 3 = some (7, .invokestatic 64, 3) := by decide +kernel
theorem i83_6 : zfetch 83 6 = some (7, .ifCond .ne 9, 3) := by decide +kernel
theorem i83_9 : zfetch 83 9 = some (7, .aload_n 0, 1) := by decide +kernel
theorem i83_10 : zfetch 83 10 = some (7, .iconst 1, 1) := by decide +kernel
theorem i83_11 : zfetch 83 11 = some (7, .invokevirtual 72, 3) := by decide +kernel
theorem i83_14 : zfetch 83 14 = some (7, .ireturn, 1) := by decide +kernel
theorem i83_15 : zfetch 83 15 = some (7, .aload_n 0, 1) := by decide +kernel
theorem i83_16 : zfetch 83 16 = some (7, .getfield 60, 3) := by decide +kernel
theorem i83_19 : zfetch 83 19 = some (7, .aload_n 0, 1) := by decide +kernel
theorem i83_20 : zfetch 83 20 = some (7, .getfield 47, 3) := by decide +kernel
theorem i83_23 : zfetch 83 23 = some (7, .invokevirtual 194, 3) := by decide +kernel
theorem i83_26 : zfetch 83 26 = some (7, .aload_n 0, 1) := by decide +kernel
theorem i83_27 : zfetch 83 27 = some (7, .getfield 60, 3) := by decide +kernel
theorem i83_30 : zfetch 83 30 = some (7, .iload_n 1, 1) := by decide +kernel
theorem i83_31 : zfetch 83 31 = some (7, .invokevirtual 161, 3) := by decide +kernel
theorem i83_34 : zfetch 83 34 = some (7, .aload_n 0, 1) := by decide +kernel
theorem i83_35 : zfetch 83 35 = some (7, .getfield 60, 3) := by decide +kernel
theorem i83_38 : zfetch 83 38 = some (7, .invokevirtual 198, 3) := by decide +kernel
theorem i83_41 : zfetch 83 41 = some (7, .ireturn, 1) := by decide +kernel
theorem i84_0 : zfetch 84 0 = some (7, .aload_n 0, 1) := by decide +kernel
theorem i84_1 : zfetch 84 1 = some (7, .iload_n 1, 1) := by decide +kernel
theorem i84_2 : zfetch 84 2 = some (7, .invokevirtual 68, 3) := by decide +kernel
theorem i84_5 : zfetch 84 5 = some (7, .ifCond .eq 12, 3) := by decide +kernel
theorem i84_8 : zfetch 84 8 = some (7, .iload_n 2, 1) := by decide +kernel
theorem i84_9 : zfetch 84 9 = some (7, .bipush 63, 2) := by decide +kernel
theorem i84_11 : zfetch 84 11 = some (7, .invokestatic 64, 3) := by decide +kernel
theorem i84_14 : zfetch 84 14 = some (7, .ifCond .ne 9, 3) := by decide +kernel
theorem i84_17 : zfetch 84 17 = some (7, .aload_n 0, 1) := by decide +kernel
theorem i84_18 : zfetch 84 18 = some (7, .iconst 1, 1) := by decide +kernel
theorem i84_19 : zfetch 84 19 = some (7, .invokevirtual 72, 3) := by decide +kernel
theorem i84_22 : zfetch 84 22 = some (7, .ireturn, 1) := by decide +kernel
theorem i84_23 : zfetch 84 23 = some (7, .aload_n 0, 1) := by decide +kernel
theorem i84_24 : zfetch 84 24 = some (7, .getfield 60, 3) := by decide +kernel
theorem i84_27 : zfetch 84 27 = some (7, .aload_n 0, 1) := by decide +kernel
theorem i84_28 : zfetch 84 28 = some (7, .getfield 47, 3) := by decide +kernel
theorem i84_31 : zfetch 84 31 = some (7, .invokevirtual 194, 3) := by decide +kernel
theorem i84_34 : zfetch 84 34 = some (7, .iconst 0, 1) := by decide +kernel
theorem i84_35 : zfetch 84 35 = some (7, .istore_n 3, 1) := by decide +kernel
theorem i84_36 : zfetch 84 36 = some (7, .iload_n 3, 1) := by decide +kernel
theorem i84_37 : zfetch 84 37 = some (7, .bipush 60, 2) := by decide +kernel
theorem i84_39 : zfetch 84 39 = some (7, .if_icmp .gt 31, 3) := by decide +kernel
theorem i84_42 : zfetch 84 42 = some (7, .aload_n 0, 1) := by decide +kernel
theorem i84_43 : zfetch 84 43 = some (7, .getfield 60, 3) := by decide +kernel
theorem i84_46 : zfetch 84 46 = some (7, .getfield 93, 3) := by decide +kernel
theorem i84_49 : zfetch 84 49 = some (7, .iload_n 1, 1) := by decide +kernel
theorem i84_50 : zfetch 84 50 = some (7, .iaload, 1) := by decide +kernel
theorem i84_51 : zfetch 84 51 = some (7, .iload_n 2, 1) := by decide +kernel
theorem i84_52 : zfetch 84 52 = some (7, .if_icmp .ne 5, 3) := by decide +kernel
theorem i84_55 : zfetch 84 55 = some (7, .iload_n 3, 1) := by decide +kernel
theorem i84_56 : zfetch 84 56 = some (7, .ireturn, 1) := by decide +kernel
theorem i84_57 : zfetch 84 57 = some (7, .aload_n 0, 1) := by decide +kernel
theorem i84_58 : zfetch 84 58 = some (7, .getfield 60, 3) := by decide +kernel
theorem i84_61 : zfetch 84 61 = some (7, .invokevirtual 170, 3) := by decide +kernel
theorem i84_64 : zfetch 84 64 = some (7, .iinc 3 1, 3) := by decide +kernel
theorem i84_67 : zfetch 84 67 = some (7, .goto (-31), 3) := by decide +kernel
theorem i84_70 : zfetch 84 70 = some (7, .aload_n 0, 1) := by decide +kernel
theorem i84_71 : zfetch 84 71 = some (7, .iconst 2, 1) := by decide +kernel
theorem i84_72 : zfetch 84 72 = some (7, .invokevirtual 72, 3) := by decide +kernel
theorem i84_75 : zfetch 84 75 = some (7, .ireturn, 1) := by decide +kernel
theorem i85_0 : zfetch 85 0 = some (7, .aload_n 0, 1) := by decide +kernel
theorem i85_1 : zfetch 85 1 = some (7, .iload_n 1, 1) := by decide +kernel
theorem i85_2 : zfetch 85 2 = some (7, .invokevirtual 68, 3) := by decide +kernel
theorem i85_5 : zfetch 85 5 = some (7, .ifCond .eq 12, 3) := by decide +kernel
theorem i85_8 : zfetch 85 8 = some (7, .iload_n 2, 1) := by decide +kernel
theorem i85_9 : zfetch 85 9 = some (7, .bipush 40, 2) := by decide +kernel
theorem i85_11 : zfetch 85 11 = some (7, .invokestatic 64, 3) := by decide +kernel
theorem i85_14 : zfetch 85 14 = some (7, .ifCond .ne 9, 3) := by decide +kernel
theorem i85_17 : zfetch 85 17 = some (7, .aload_n 0, 1) := by decide +kernel
theorem i85_18 : zfetch 85 18 = some (7, .iconst 1, 1) := by decide +kernel
theorem i85_19 : zfetch 85 19 = some (7, .invokevirtual 72, 3) := by decide +kernel
theorem i85_22 : zfetch 85 22 = some (7, .ireturn, 1) := by decide +kernel
theorem i85_23 : zfetch 85 23 = some (7, .aload_n 0, 1) := by decide +kernel
theorem i85_24 : zfetch 85 24 = some (7, .getfield 47, 3) := by decide +kernel
theorem i85_27 : zfetch 85 27 = some (7, .iload_n 1, 1) := by decide +kernel
theorem i85_28 : zfetch 85 28 = some (7, .invokevirtual 114, 3) := by decide +kernel
theorem i85_31 : zfetch 85 31 = some (7, .ifCond .ne 9, 3) := by decide +kernel
theorem i85_34 : zfetch 85 34 = some (7, .aload_n 0, 1) := by decide +kernel
theorem i85_35 : zfetch 85 35 = some (7, .iconst 3, 1) := by decide +kernel
theorem i85_36 : zfetch 85 36 = some (7, .invokevirtual 72, 3) := by decide +kernel
theorem i85_39 : zfetch 85 39 = some (7, .ireturn, 1) := by decide +kernel
theorem i85_40 : zfetch 85 40 = some (7, .iconst 0, 1) := by decide +kernel
theorem i85_41 : zfetch 85 41 = some (7, .istore_n 3, 1) := by decide +kernel
theorem i85_42 : zfetch 85 42 = some (7, .iload_n 3, 1) := by decide +kernel
theorem i85_43 : zfetch 85 43 = some (7, .bipush 99, 2) := by decide +kernel
theorem i85_45 : zfetch 85 45 = some (7, .if_icmp .gt 21, 3) := by decide +kernel
theorem i85_48 : zfetch 85 48 = some (7, .aload_n 0, 1) := by decide +kernel
theorem i85_49 : zfetch 85 49 = some (7, .iload_n 1, 1) := by decide +kernel
theorem i85_50 : zfetch 85 50 = some (7, .iload_n 3, 1) := by decide +kernel
theorem i85_51 : zfetch 85 51 = some (7, .iload_n 2, 1) := by decide +kernel
theorem i85_52 : zfetch 85 52 = some (7, .invokevirtual 202, 3) := by decide +kernel
theorem i85_55 : zfetch 85 55 = some (7, .ifCond .eq 5, 3) := by decide +kernel
theorem i85_58 : zfetch 85 58 = some (7, .iload_n 3, 1) := by decide +kernel
theorem i85_59 : zfetch 85 59 = some (7, .ireturn, 1) := by decide +kernel
theorem i85_60 : zfetch 85 60 = some (7, .iinc 3 1, 3) := by decide +kernel
theorem i85_63 : zfetch 85 63 = some (7, .goto (-21), 3) := by decide +kernel
theorem i85_66 : zfetch 85 66 = some (7, .aload_n 0, 1) := by decide +kernel
theorem i85_67 : zfetch 85 67 = some (7, .iconst 2, 1) := by decide +kernel
theorem i85_68 : zfetch 85 68 = some (7, .invokevirtual 72, 3) := by decide +kernel
theorem i85_71 : zfetch 85 71 = some (7, .ireturn, 1) := by decide +kernel
theorem i86_0 : zfetch 86 0 = some (7, .aload_n 0, 1) := by decide +kernel
theorem i86_1 : zfetch 86 1 = some (7, .iload_n 1, 1) := by decide +kernel
theorem i86_2 : zfetch 86 2 = some (7, .invokevirtual 68, 3) := by decide +kernel
theorem i86_5 : zfetch 86 5 = some (7, .ifCond .eq 12, 3) := by decide +kernel
theorem i86_8 : zfetch 86 8 = some (7, .iload_n 2, 1) := by decide +kernel
theorem i86_9 : zfetch 86 9 = some (7, .bipush 40, 2) := by decide +kernel
theorem i86_11 : zfetch 86 11 = some (7, .invokestatic 64, 3) := by decide +kernel
theorem i86_14 : zfetch 86 14 = some (7, .ifCond .ne 9, 3) := by decide +kernel
theorem i86_17 : zfetch 86 17 = some (7, .aload_n 0, 1) := by decide +kernel
theorem i86_18 : zfetch 86 18 = some (7, .iconst 1, 1) := by decide +kernel
theorem i86_19 : zfetch 86 19 = some (7, .invokevirtual 72, 3) := by decide +kernel
theorem i86_22 : zfetch 86 22 = some (7, .ireturn, 1) := by decide +kernel
theorem i86_23 : zfetch 86 23 = some (7, .aload_n 0, 1) := by decide +kernel
theorem i86_24 : zfetch 86 24 = some (7, .getfield 47, 3) := by decide +kernel
theorem i86_27 : zfetch 86 27 = some (7, .invokevirtual 198, 3) := by decide +kernel
theorem i86_30 : zfetch 86 30 = some (7, .istore_n 3, 1) := by decide +kernel
theorem i86_31 : zfetch 86 31 = some (7, .iconst 0, 1) := by decide +kernel
theorem i86_32 : zfetch 86 32 = some (7, .istore 4, 2) := by decide +kernel
theorem i86_34 : zfetch 86 34 = some (7, .iload 4, 2) := by decide +kernel
theorem i86_36 : zfetch 86 36 = some (7, .iload_n 3, 1) := by decide +kernel
theorem i86_37 : zfetch 86 37 = some (7, .invokestatic 186, 3) := by decide +kernel
theorem i86_40 : zfetch 86 40 = some (7, .if_icmp .gt 78, 3) := by decide +kernel
theorem i86_43 : zfetch 86 43 = some (7, .iconst 0, 1) := by decide +kernel
theorem i86_44 : zfetch 86 44 = some (7, .istore 5, 2) := by decide +kernel
theorem i86_46 : zfetch 86 46 = some (7, .iload 5, 2) := by decide +kernel
theorem i86_48 : zfetch 86 48 = some (7, .iload_n 3, 1) := by decide +kernel
theorem i86_49 : zfetch 86 49 = some (7, .if_icmp .gt 63, 3) := by decide +kernel
theorem i86_52 : zfetch 86 52 = some (7, .iload 5, 2) := by decide +kernel
theorem i86_54 : zfetch 86 54 = some (7, .iload_n 3, 1) := by decide +kernel
theorem i86_55 : zfetch 86 55 = some (7, .iconst (-1), 1) := by decide +kernel
theorem i86_56 : zfetch 86 56 = some (7, .ixor, 1) := by decide +kernel
theorem i86_57 : zfetch 86 57 = some (7, .iand, 1) := by decide +kernel
theorem i86_58 : zfetch 86 58 = some (7, .ifCond .ne 17, 3) := by decide +kernel
theorem i86_61 : zfetch 86 61 = some (7, .iload 5, 2) := by decide +kernel
theorem i86_63 : zfetch 86 63 = some (7, .invokestatic 186, 3) := by decide +kernel
theorem i86_66 : zfetch 86 66 = some (7, .iload 4, 2) := by decide +kernel
theorem i86_68 : zfetch 86 68 = some (7, .if_icmp .ne 7, 3) := by decide +kernel
theorem i86_71 : zfetch 86 71 = some (7, .iconst 1, 1) := by decide +kernel
theorem i86_72 : zfetch 86 72 = some (7, .goto 4, 3) := by decide +kernel
theorem i86_75 : zfetch 86 75 = some (7, .iconst 0, 1) := by decide +kernel
theorem i86_76 : zfetch 86 76 = some (7, .istore 6, 2) := by decide +kernel
theorem i86_78 : zfetch 86 78 = some (7, .iload 6, 2) := by decide +kernel
theorem i86_80 : zfetch 86 80 = some (7, .ifCond .eq 26, 3) := by decide +kernel
theorem i86_83 : zfetch 86 83 = some (7, .aload_n 0, 1) := by decide +kernel
theorem i86_84 : zfetch 86 84 = some (7, .iload 5, 2) := by decide +kernel
theorem i86_86 : zfetch 86 86 = some (7, .iload_n 1, 1) := by decide +kernel
theorem i86_87 : zfetch 86 87 = some (7, .iload_n 2, 1) := by decide +kernel
theorem i86_88 : zfetch 86 88 = some (7, .invokevirtual 206, 3) := by decide +kernel
theorem i86_91 : zfetch 86 91 = some (7, .aload_n 0, 1) := by decide +kernel
theorem i86_92 : zfetch 86 92 = some (7, .getfield 47, 3) := by decide +kernel
theorem i86_95 : zfetch 86 95 = some (7, .getfield 93, 3) := by decide +kernel
theorem i86_98 : zfetch 86 98 = some (7, .iload_n 1, 1) := by decide +kernel
theorem i86_99 : zfetch 86 99 = some (7, .iaload, 1) := by decide +kernel
theorem i86_100 : zfetch 86 100 = some (7, .if_icmp .ne 6, 3) := by decide +kernel
theorem i86_103 : zfetch 86 103 = some (7, .iload 5, 2) := by decide +kernel
theorem i86_105 : zfetch 86 105 = some (7, .ireturn, 1) := by decide +kernel
theorem i86_106 : zfetch 86 106 = some (7, .iinc 5 1, 3) := by decide +kernel
theorem i86_109 : zfetch 86 109 = some (7, .goto (-63), 3) := by decide +kernel
theorem i86_112 : zfetch 86 112 = some (7, .iinc 4 1, 3) := by decide +kernel
theorem i86_115 : zfetch 86 115 = some (7, .goto (-81), 3) := by decide +kernel
theorem i86_118 : zfetch 86 118 = some (7, .aload_n 0, 1) := by decide +kernel
theorem i86_119 : zfetch 86 119 = some (7, .iconst 2, 1) := by decide +kernel
theorem i86_120 : zfetch 86 120 = some (7, .invokevirtual 72, 3) := by decide +kernel
theorem i86_123 : zfetch 86 123 = some (7, .ireturn, 1) := by decide +kernel
theorem i87_0 : zfetch 87 0 = some (7, .aload_n 0, 1) := by decide +kernel
theorem i87_1 : zfetch 87 1 = some (7, .iload_n 1, 1) := by decide +kernel
theorem i87_2 : zfetch 87 2 = some (7, .invokevirtual 68, 3) := by decide +kernel
theorem i87_5 : zfetch 87 5 = some (7, .ifCond .eq 20, 3) := by decide +kernel
theorem i87_8 : zfetch 87 8 = some (7, .iload_n 2, 1) := by decide +kernel
theorem i87_9 : zfetch 87 9 = some (7, .bipush 40, 2) := by decide +kernel
theorem i87_11 : zfetch 87 11 = some (7, .invokestatic 64, 3) := by decide +kernel
theorem i87_14 : zfetch 87 14 = some (7, .ifCond .eq 11, 3) := by decide +kernel
theorem i87_17 : zfetch 87 17 = some (7, .iload_n 3, 1) := by decide +kernel
theorem i87_18 : zfetch 87 18 = some (7, .iconst 1, 1) := by decide +kernel
theorem i87_19 : zfetch 87 19 = some (7, .invokestatic 64, 3) := by decide +kernel
theorem i87_22 : zfetch 87 22 = some (7, .ifCond .ne 9, 3) := by decide +kernel
theorem i87_25 : zfetch 87 25 = some (7, .aload_n 0, 1) := by decide +kernel
theorem i87_26 : zfetch 87 26 = some (7, .iconst 1, 1) := by decide +kernel
theorem i87_27 : zfetch 87 27 = some (7, .invokevirtual 72, 3) := by decide +kernel
theorem i87_30 : zfetch 87 30 = some (7, .ireturn, 1) := by decide +kernel
theorem i87_31 : zfetch 87 31 = some (7, .aload_n 0, 1) := by decide +kernel
theorem i87_32 : zfetch 87 32 = some (7, .getfield 47, 3) := by decide +kernel
theorem i87_35 : zfetch 87 35 = some (7, .iload_n 1, 1) := by decide +kernel
theorem i87_36 : zfetch 87 36 = some (7, .invokevirtual 114, 3) := by decide +kernel
theorem i87_39 : zfetch 87 39 = some (7, .ifCond .ne 9, 3) := by decide +kernel
theorem i87_42 : zfetch 87 42 = some (7, .aload_n 0, 1) := by decide +kernel
theorem i87_43 : zfetch 87 43 = some (7, .iconst 3, 1) := by decide +kernel
theorem i87_44 : zfetch 87 44 = some (7, .invokevirtual 72, 3) := by decide +kernel
theorem i87_47 : zfetch 87 47 = some (7, .ireturn, 1) := by decide +kernel
theorem i87_48 : zfetch 87 48 = some (7, .iconst 0, 1) := by decide +kernel
theorem i87_49 : zfetch 87 49 = some (7, .istore 4, 2) := by decide +kernel
theorem i87_51 : zfetch 87 51 = some (7, .iconst 0, 1) := by decide +kernel
theorem i87_52 : zfetch 87 52 = some (7, .istore 5, 2) := by decide +kernel
theorem i87_54 : zfetch 87 54 = some (7, .iload 5, 2) := by decide +kernel
theorem i87_56 : zfetch 87 56 = some (7, .bipush 32, 2) := by decide +kernel
theorem i87_58 : zfetch 87 58 = some (7, .if_icmp .ge 23, 3) := by decide +kernel
theorem i87_61 : zfetch 87 61 = some (7, .aload_n 0, 1) := by decide +kernel
theorem i87_62 : zfetch 87 62 = some (7, .iload_n 1, 1) := by decide +kernel
theorem i87_63 : zfetch 87 63 = some (7, .iload 5, 2) := by decide +kernel
theorem i87_65 : zfetch 87 65 = some (7, .iload_n 2, 1) := by decide +kernel
theorem i87_66 : zfetch 87 66 = some (7, .invokevirtual 202, 3) := by decide +kernel
theorem i87_69 : zfetch 87 69 = some (7, .ifCond .eq 6, 3) := by decide +kernel
theorem i87_72 : zfetch 87 72 = some (7, .iinc 4 1, 3) := by decide +kernel
theorem i87_75 : zfetch 87 75 = some (7, .iinc 5 1, 3) := by decide +kernel
theorem i87_78 : zfetch 87 78 = some (7, .goto (-24), 3) := by decide +kernel
theorem i87_81 : zfetch 87 81 = some (7, .bipush 32, 2) := by decide +kernel
theorem i87_83 : zfetch 87 83 = some (7, .istore 5, 2) := by decide +kernel
theorem i87_85 : zfetch 87 85 = some (7, .iconst 0, 1) := by decide +kernel
theorem i87_86 : zfetch 87 86 = some (7, .istore 6, 2) := by decide +kernel
theorem i87_88 : zfetch 87 88 = some (7, .iload 6, 2) := by decide +kernel
theorem i87_90 : zfetch 87 90 = some (7, .iconst 5, 1) := by decide +kernel
theorem i87_91 : zfetch 87 91 = some (7, .if_icmp .ge 35, 3) := by decide +kernel
theorem i87_94 : zfetch 87 94 = some (7, .iload 4, 2) := by decide +kernel
theorem i87_96 : zfetch 87 96 = some (7, .iconst 2, 1) := by decide +kernel
theorem i87_97 : zfetch 87 97 = some (7, .irem, 1) := by decide +kernel
theorem i87_98 : zfetch 87 98 = some (7, .ifCond .ne 22, 3) := by decide +kernel
theorem i87_101 : zfetch 87 101 = some (7, .iload 5, 2) := by decide +kernel
theorem i87_103 : zfetch 87 103 = some (7, .iconst 2, 1) := by decide +kernel
theorem i87_104 : zfetch 87 104 = some (7, .irem, 1) := by decide +kernel
theorem i87_105 : zfetch 87 105 = some (7, .ifCond .ne 15, 3) := by decide +kernel
theorem i87_108 : zfetch 87 108 = some (7, .iload 4, 2) := by decide +kernel
theorem i87_110 : zfetch 87 110 = some (7, .iconst 2, 1) := by decide +kernel
theorem i87_111 : zfetch 87 111 = some (7, .idiv, 1) := by decide +kernel
theorem i87_112 : zfetch 87 112 = some (7, .istore 4, 2) := by decide +kernel
theorem i87_114 : zfetch 87 114 = some (7, .iload 5, 2) := by decide +kernel
theorem i87_116 : zfetch 87 116 = some (7, .iconst 2, 1) := by decide +kernel
theorem i87_117 : zfetch 87 117 = some (7, .idiv, 1) := by decide +kernel
theorem i87_118 : zfetch 87 118 = some (7, .istore 5, 2) := by decide +kernel
theorem i87_120 : zfetch 87 120 = some (7, .iinc 6 1, 3) := by decide +kernel
theorem i87_123 : zfetch 87 123 = some (7, .goto (-35), 3) := by decide +kernel
theorem i87_126 : zfetch 87 126 = some (7, .iload_n 3, 1) := by decide +kernel
theorem i87_127 : zfetch 87 127 = some (7, .ifCond .ne 8, 3) := by decide +kernel
theorem i87_130 : zfetch 87 130 = some (7, .iload 4, 2) := by decide +kernel
theorem i87_132 : zfetch 87 132 = some (7, .goto 5, 3) := by decide +kernel
theorem i87_135 : zfetch 87 135 = some (7, .iload 5, 2) := by decide +kernel
theorem i87_137 : zfetch 87 137 = some (7, .ireturn, 1) := by decide +kernel
theorem i88_0 : zfetch 88 0 = some (7, .iload_n 1, 1) := by decide +kernel
theorem i88_1 : zfetch 88 1 = some (7, .invokestatic 209, 3) := by decide +kernel
theorem i88_4 : zfetch 88 4 = some (7, .ifCond .eq 19, 3) := by decide +kernel
theorem i88_7 : zfetch 88 7 = some (7, .aload_n 0, 1) := by decide +kernel
theorem i88_8 : zfetch 88 8 = some (7, .iload_n 2, 1) := by decide +kernel
theorem i88_9 : zfetch 88 9 = some (7, .invokevirtual 68, 3) := by decide +kernel
theorem i88_12 : zfetch 88 12 = some (7, .ifCond .eq 11, 3) := by decide +kernel
theorem i88_15 : zfetch 88 15 = some (7, .iload_n 3, 1) := by decide +kernel
theorem i88_16 : zfetch 88 16 = some (7, .iconst 1, 1) := by decide +kernel
theorem i88_17 : zfetch 88 17 = some (7, .invokestatic 64, 3) := by decide +kernel
theorem i88_20 : zfetch 88 20 = some (7, .ifCond .ne 9, 3) := by decide +kernel
theorem i88_23 : zfetch 88 23 = some (7, .aload_n 0, 1) := by decide +kernel
theorem i88_24 : zfetch 88 24 = some (7, .iconst 1, 1) := by decide +kernel
theorem i88_25 : zfetch 88 25 = some (7, .invokevirtual 72, 3) := by decide +kernel
theorem i88_28 : zfetch 88 28 = some (7, .ireturn, 1) := by decide +kernel
theorem i88_29 : zfetch 88 29 = some (7, .aload_n 0, 1) := by decide +kernel
theorem i88_30 : zfetch 88 30 = some (7, .getfield 35, 3) := by decide +kernel
theorem i88_33 : zfetch 88 33 = some (7, .iload_n 1, 1) := by decide +kernel
theorem i88_34 : zfetch 88 34 = some (7, .aaload, 1) := by decide +kernel
theorem i88_35 : zfetch 88 35 = some (7, .invokevirtual 212, 3) := by decide +kernel
theorem i88_38 : zfetch 88 38 = some (7, .ifCond .eq 9, 3) := by decide +kernel
theorem i88_41 : zfetch 88 41 = some (7, .aload_n 0, 1) := by decide +kernel
theorem i88_42 : zfetch 88 42 = some (7, .iconst 2, 1) := by decide +kernel
theorem i88_43 : zfetch 88 43 = some (7, .invokevirtual 72, 3) := by decide +kernel
theorem i88_46 : zfetch 88 46 = some (7, .ireturn, 1) := by decide +kernel
theorem i88_47 : zfetch 88 47 = some (7, .iconst 0, 1) := by decide +kernel
theorem i88_48 : zfetch 88 48 = some (7, .istore 4, 2) := by decide +kernel
theorem i88_50 : zfetch 88 50 = some (7, .iconst 0, 1) := by decide +kernel
theorem i88_51 : zfetch 88 51 = some (7, .istore 5, 2) := by decide +kernel
theorem i88_53 : zfetch 88 53 = some (7, .iload 5, 2) := by decide +kernel
theorem i88_55 : zfetch 88 55 = some (7, .bipush 6, 2) := by decide +kernel
theorem i88_57 : zfetch 88 57 = some (7, .if_icmp .gt 34, 3) := by decide +kernel
theorem i88_60 : zfetch 88 60 = some (7, .aload_n 0, 1) := by decide +kernel
theorem i88_61 : zfetch 88 61 = some (7, .aload_n 0, 1) := by decide +kernel
theorem i88_62 : zfetch 88 62 = some (7, .getfield 35, 3) := by decide +kernel
theorem i88_65 : zfetch 88 65 = some (7, .iload_n 1, 1) := by decide +kernel
theorem i88_66 : zfetch 88 66 = some (7, .aaload, 1) := by decide +kernel
theorem i88_67 : zfetch 88 67 = some (7, .iload_n 2, 1) := by decide +kernel
theorem i88_68 : zfetch 88 68 = some (7, .iload 5, 2) := by decide +kernel
theorem i88_70 : zfetch 88 70 = some (7, .invokevirtual 216, 3) := by decide +kernel
theorem i88_73 : zfetch 88 73 = some (7, .ifCond .eq 12, 3) := by decide +kernel
theorem i88_76 : zfetch 88 76 = some (7, .iload 4, 2) := by decide +kernel
theorem i88_78 : zfetch 88 78 = some (7, .iconst 1, 1) := by decide +kernel
theorem i88_79 : zfetch 88 79 = some (7, .iload 5, 2) := by decide +kernel
theorem i88_81 : zfetch 88 81 = some (7, .ishl, 1) := by decide +kernel
theorem i88_82 : zfetch 88 82 = some (7, .ior, 1) := by decide +kernel
theorem i88_83 : zfetch 88 83 = some (7, .istore 4, 2) := by decide +kernel
theorem i88_85 : zfetch 88 85 = some (7, .iinc 5 1, 3) := by decide +kernel
theorem i88_88 : zfetch 88 88 = some (7, .goto (-35), 3) := by decide +kernel
theorem i88_91 : zfetch 88 91 = some (7, .iload_n 3, 1) := by decide +kernel
theorem i88_92 : zfetch 88 92 = some (7, .ifCond .ne 8, 3) := by decide +kernel
theorem i88_95 : zfetch 88 95 = some (7, .iload 4, 2) := by decide +kernel
theorem i88_97 : zfetch 88 97 = some (7, .goto 8, 3) := by decide +kernel
theorem i88_100 : zfetch 88 100 = some (7, .iload 4, 2) := by decide +kernel
theorem i88_102 : zfetch 88 102 = some (7, .invokestatic 186, 3) := by decide +kernel
theorem i88_105 : zfetch 88 105 = some (7, .ireturn, 1) := by decide +kernel
theorem i89_0 : zfetch 89 0 = some (7, .aload_n 0, 1) := by decide +kernel
theorem i89_1 : zfetch 89 1 = some (7, .iload_n 1, 1) := by decide +kernel
theorem i89_2 : zfetch 89 2 = some (7, .invokevirtual 68, 3) := by decide +kernel
theorem i89_5 : zfetch 89 5 = some (7, .ifCond .eq 11, 3) := by decide +kernel
theorem i89_8 : zfetch 89 8 = some (7, .iload_n 2, 1) := by decide +kernel
theorem i89_9 : zfetch 89 9 = some (7, .iconst 3, 1) := by decide +kernel
theorem i89_10 : zfetch 89 10 = some (7, .invokestatic 64, 3) := by decide +kernel
theorem i89_13 : zfetch 89 13 = some (7, .ifCond .ne 9, 3) := by decide +kernel
theorem i89_16 : zfetch 89 16 = some (7, .aload_n 0, 1) := by decide +kernel
theorem i89_17 : zfetch 89 17 = some (7, .iconst 1, 1) := by decide +kernel
theorem i89_18 : zfetch 89 18 = some (7, .invokevirtual 72, 3) := by decide +kernel
theorem i89_21 : zfetch 89 21 = some (7, .ireturn, 1) := by decide +kernel
theorem i89_22 : zfetch 89 22 = some (7, .aload_n 0, 1) := by decide +kernel
theorem i89_23 : zfetch 89 23 = some (7, .getfield 29, 3) := by decide +kernel
theorem i89_26 : zfetch 89 26 = some (7, .aload_n 0, 1) := by decide +kernel
theorem i89_27 : zfetch 89 27 = some (7, .getfield 47, 3) := by decide +kernel
theorem i89_30 : zfetch 89 30 = some (7, .getfield 84, 3) := by decide +kernel
theorem i89_33 : zfetch 89 33 = some (7, .iload_n 1, 1) := by decide +kernel
theorem i89_34 : zfetch 89 34 = some (7, .iaload, 1) := by decide +kernel
theorem i89_35 : zfetch 89 35 = some (7, .iload_n 1, 1) := by decide +kernel
theorem i89_36 : zfetch 89 36 = some (7, .aload_n 0, 1) := by decide +kernel
theorem i89_37 : zfetch 89 37 = some (7, .getfield 47, 3) := by decide +kernel
theorem i89_40 : zfetch 89 40 = some (7, .getfield 87, 3) := by decide +kernel
theorem i89_43 : zfetch 89 43 = some (7, .iload_n 1, 1) := by decide +kernel
theorem i89_44 : zfetch 89 44 = some (7, .iaload, 1) := by decide +kernel
theorem i89_45 : zfetch 89 45 = some (7, .iload_n 2, 1) := by decide +kernel
theorem i89_46 : zfetch 89 46 = some (7, .iload_n 3, 1) := by decide +kernel
theorem i89_47 : zfetch 89 47 = some (7, .invokevirtual 220, 3) := by decide +kernel
theorem i89_50 : zfetch 89 50 = some (7, .istore 4, 2) := by decide +kernel
theorem i89_52 : zfetch 89 52 = some (7, .aload_n 0, 1) := by decide +kernel
theorem i89_53 : zfetch 89 53 = some (7, .getfield 29, 3) := by decide +kernel
theorem i89_56 : zfetch 89 56 = some (7, .getfield 224, 3) := by decide +kernel
theorem i89_59 : zfetch 89 59 = some (7, .ifCond .eq 12, 3) := by decide +kernel
theorem i89_62 : zfetch 89 62 = some (7, .aload_n 0, 1) := by decide +kernel
theorem i89_63 : zfetch 89 63 = some (7, .bipush 6, 2) := by decide +kernel
theorem i89_65 : zfetch 89 65 = some (7, .invokevirtual 72, 3) := by decide +kernel
theorem i89_68 : zfetch 89 68 = some (7, .goto 5, 3) := by decide +kernel
theorem i89_71 : zfetch 89 71 = some (7, .iload 4, 2) := by decide +kernel
theorem i89_73 : zfetch 89 73 = some (7, .ireturn, 1) := by decide +kernel
theorem i90_0 : zfetch 90 0 = some (7, .iload_n 1, 1) := by decide +kernel
theorem i90_1 : zfetch 90 1 = some (7, .ifCond .lt 26, 3) := by decide +kernel
theorem i90_4 : zfetch 90 4 = some (7, .iload_n 1, 1) := by decide +kernel
theorem i90_5 : zfetch 90 5 = some (7, .aload_n 0, 1) := by decide +kernel
theorem i90_6 : zfetch 90 6 = some (7, .getfield 29, 3) := by decide +kernel
theorem i90_9 : zfetch 90 9 = some (7, .getfield 228, 3) := by decide +kernel
theorem i90_12 : zfetch 90 12 = some (7, .if_icmp .ge 15, 3) := by decide +kernel
theorem i90_15 : zfetch 90 15 = some (7, .aload_n 0, 1) := by decide +kernel
theorem i90_16 : zfetch 90 16 = some (7, .getfield 29, 3) := by decide +kernel
theorem i90_19 : zfetch 90 19 = some (7, .getfield 229, 3) := by decide +kernel
theorem i90_22 : zfetch 90 22 = some (7, .iload_n 1, 1) := by decide +kernel
theorem i90_23 : zfetch 90 23 = some (7, .iaload, 1) := by decide +kernel
theorem i90_24 : zfetch 90 24 = some (7, .goto 8, 3) := by decide +kernel
theorem i90_27 : zfetch 90 27 = some (7, .aload_n 0, 1) := by decide +kernel
theorem i90_28 : zfetch 90 28 = some (7, .iconst 2, 1) := by decide +kernel
theorem i90_29 : zfetch 90 29 = some (7, .invokevirtual 72, 3) := by decide +kernel
theorem i90_32 : zfetch 90 32 = some (7, .ireturn, 1) := by decide +kernel
theorem i91_0 : zfetch 91 0 = some (7, .iload_n 1, 1) := by decide +kernel
theorem i91_1 : zfetch 91 1 = some (7, .invokestatic 209, 3) := by decide +kernel
theorem i91_4 : zfetch 91 4 = some (7, .ifCond .eq 25, 3) := by decide +kernel
theorem i91_7 : zfetch 91 7 = some (7, .iload_n 2, 1) := by decide +kernel
theorem i91_8 : zfetch 91 8 = some (7, .ifCond .eq 27, 3) := by decide +kernel
theorem i91_11 : zfetch 91 11 = some (7, .iload_n 2, 1) := by decide +kernel
theorem i91_12 : zfetch 91 12 = some (7, .bipush 8, 2) := by decide +kernel
theorem i91_14 : zfetch 91 14 = some (7, .if_icmp .eq 21, 3) := by decide +kernel
theorem i91_17 : zfetch 91 17 = some (7, .iload_n 2, 1) := by decide +kernel
theorem i91_18 : zfetch 91 18 = some (7, .bipush 16, 2) := by decide +kernel
theorem i91_20 : zfetch 91 20 = some (7, .if_icmp .eq 15, 3) := by decide +kernel
theorem i91_23 : zfetch 91 23 = some (7, .iload_n 2, 1) := by decide +kernel
theorem i91_24 : zfetch 91 24 = some (7, .bipush 32, 2) := by decide +kernel
theorem i91_26 : zfetch 91 26 = some (7, .if_icmp .eq 9, 3) := by decide +kernel
theorem i91_29 : zfetch 91 29 = some (7, .aload_n 0, 1) := by decide +kernel
theorem i91_30 : zfetch 91 30 = some (7, .iconst 1, 1) := by decide +kernel
theorem i91_31 : zfetch 91 31 = some (7, .invokevirtual 72, 3) := by decide +kernel
theorem i91_34 : zfetch 91 34 = some (7, .ireturn, 1) := by decide +kernel
theorem i91_35 : zfetch 91 35 = some (7, .iload_n 2, 1) := by decide +kernel
theorem i91_36 : zfetch 91 36 = some (7, .ifCond .ne 16, 3) := by decide +kernel
theorem i91_39 : zfetch 91 39 = some (7, .aload_n 0, 1) := by decide +kernel
theorem i91_40 : zfetch 91 40 = some (7, .getfield 35, 3) := by decide +kernel
theorem i91_43 : zfetch 91 43 = some (7, .iload_n 1, 1) := by decide +kernel
theorem i91_44 : zfetch 91 44 = some (7, .aaload, 1) := by decide +kernel
theorem i91_45 : zfetch 91 45 = some (7, .iconst 0, 1) := by decide +kernel
theorem i91_46 : zfetch 91 46 = some (7, .iconst 0, 1) := by decide +kernel
theorem i91_47 : zfetch 91 47 = some (7, .invokevirtual 232, 3) := by decide +kernel
theorem i91_50 : zfetch 91 50 = some (7, .iconst 1, 1) := by decide +kernel
theorem i91_51 : zfetch 91 51 = some (7, .ireturn, 1) := by decide +kernel
theorem i91_52 : zfetch 91 52 = some (7, .iload_n 3, 1) := by decide +kernel
theorem i91_53 : zfetch 91 53 = some (7, .ifCond .ge 9, 3) := by decide +kernel
theorem i91_56 : zfetch 91 56 = some (7, .aload_n 0, 1) := by decide +kernel
theorem i91_57 : zfetch 91 57 = some (7, .iconst 3, 1) := by decide +kernel
theorem i91_58 : zfetch 91 58 = some (7, .invokevirtual 72, 3) := by decide +kernel
theorem i91_61 : zfetch 91 61 = some (7, .ireturn, 1) := by decide +kernel
theorem i91_62 : zfetch 91 62 = some (7, .iload_n 3, 1) := by decide +kernel
theorem i91_63 : zfetch 91 63 = some (7, .bipush 24, 2) := by decide +kernel
theorem i91_65 : zfetch 91 65 = some (7, .if_icmp .le 9, 3) := by decide +kernel
theorem i91_68 : zfetch 91 68 = some (7, .aload_n 0, 1) := by decide +kernel
theorem i91_69 : zfetch 91 69 = some (7, .iconst 1, 1) := by decide +kernel
theorem i91_70 : zfetch 91 70 = some (7, .invokevirtual 72, 3) := by decide +kernel
theorem i91_73 : zfetch 91 73 = some (7, .ireturn, 1) := by decide +kernel
theorem i91_74 : zfetch 91 74 = some (7, .aload_n 0, 1) := by decide +kernel
theorem i91_75 : zfetch 91 75 = some (7, .getfield 35, 3) := by decide +kernel
theorem i91_78 : zfetch 91 78 = some (7, .iload_n 1, 1) := by decide +kernel
theorem i91_79 : zfetch 91 79 = some (7, .aaload, 1) := by decide +kernel
theorem i91_80 : zfetch 91 80 = some (7, .iload_n 2, 1) := by decide +kernel
theorem i91_81 : zfetch 91 81 = some (7, .iload_n 3, 1) := by decide +kernel
theorem i91_82 : zfetch 91 82 = some (7, .invokevirtual 232, 3) := by decide +kernel
theorem i91_85 : zfetch 91 85 = some (7, .iconst 1, 1) := by decide +kernel
theorem i91_86 : zfetch 91 86 = some (7, .ireturn, 1) := by decide +kernel
theorem i92_0 : zfetch 92 0 = some (7, .iload_n 1, 1) := by decide +kernel
theorem i92_1 : zfetch 92 1 = some (7, .invokestatic 209, 3) := by decide +kernel
theorem i92_4 : zfetch 92 4 = some (7, .ifCond .ne 9, 3) := by decide +kernel
theorem i92_7 : zfetch 92 7 = some (7, .aload_n 0, 1) := by decide +kernel
theorem i92_8 : zfetch 92 8 = some (7, .iconst 1, 1) := by decide +kernel
theorem i92_9 : zfetch 92 9 = some (7, .invokevirtual 72, 3) := by decide +kernel
theorem i92_12 : zfetch 92 12 = some (7, .ireturn, 1) := by decide +kernel
theorem i92_13 : zfetch 92 13 = some (7, .aload_n 0, 1) := by decide +kernel
theorem i92_14 : zfetch 92 14 = some (7, .getfield 35, 3) := by decide +kernel
theorem i92_17 : zfetch 92 17 = some (7, .iload_n 1, 1) := by decide +kernel
theorem i92_18 : zfetch 92 18 = some (7, .aaload, 1) := by decide +kernel
theorem i92_19 : zfetch 92 19 = some (7, .invokevirtual 212, 3) := by decide +kernel
theorem i92_22 : zfetch 92 22 = some (7, .ifCond .eq 9, 3) := by decide +kernel
theorem i92_25 : zfetch 92 25 = some (7, .aload_n 0, 1) := by decide +kernel
theorem i92_26 : zfetch 92 26 = some (7, .iconst 2, 1) := by decide +kernel
theorem i92_27 : zfetch 92 27 = some (7, .invokevirtual 72, 3) := by decide +kernel
theorem i92_30 : zfetch 92 30 = some (7, .ireturn, 1) := by decide +kernel
theorem i92_31 : zfetch 92 31 = some (7, .iload_n 2, 1) := by decide +kernel
theorem i92_32 : zfetch 92 32 = some (7, .ifCond .lt 16, 3) := by decide +kernel
theorem i92_35 : zfetch 92 35 = some (7, .iload_n 2, 1) := by decide +kernel
theorem i92_36 : zfetch 92 36 = some (7, .aload_n 0, 1) := by decide +kernel
theorem i92_37 : zfetch 92 37 = some (7, .getfield 35, 3) := by decide +kernel
theorem i92_40 : zfetch 92 40 = some (7, .iload_n 1, 1) := by decide +kernel
theorem i92_41 : zfetch 92 41 = some (7, .aaload, 1) := by decide +kernel
theorem i92_42 : zfetch 92 42 = some (7, .getfield 236, 3) := by decide +kernel
theorem i92_45 : zfetch 92 45 = some (7, .if_icmp .lt 9, 3) := by decide +kernel
theorem i92_48 : zfetch 92 48 = some (7, .aload_n 0, 1) := by decide +kernel
theorem i92_49 : zfetch 92 49 = some (7, .iconst 1, 1) := by decide +kernel
theorem i92_50 : zfetch 92 50 = some (7, .invokevirtual 72, 3) := by decide +kernel
theorem i92_53 : zfetch 92 53 = some (7, .ireturn, 1) := by decide +kernel
theorem i92_54 : zfetch 92 54 = some (7, .aload_n 0, 1) := by decide +kernel
theorem i92_55 : zfetch 92 55 = some (7, .getfield 35, 3) := by decide +kernel
theorem i92_58 : zfetch 92 58 = some (7, .iload_n 1, 1) := by decide +kernel
theorem i92_59 : zfetch 92 59 = some (7, .aaload, 1) := by decide +kernel
theorem i92_60 : zfetch 92 60 = some (7, .iload_n 2, 1) := by decide +kernel
theorem i92_61 : zfetch 92 61 = some (7, .iload_n 3, 1) := by decide +kernel
theorem i92_62 : zfetch 92 62 = some (7, .invokevirtual 237, 3) := by decide +kernel
theorem i92_65 : zfetch 92 65 = some (7, .iconst 1, 1) := by decide +kernel
theorem i92_66 : zfetch 92 66 = some (7, .ireturn, 1) := by decide +kernel
theorem i93_0 : zfetch 93 0 = some (7, .iload_n 1, 1) := by decide +kernel
theorem i93_1 : zfetch 93 1 = some (7, .invokestatic 209, 3) := by decide +kernel
theorem i93_4 : zfetch 93 4 = some (7, .ifCond .eq 10, 3) := by decide +kernel
theorem i93_7 : zfetch 93 7 = some (7, .iload_n 3, 1) := by decide +kernel
theorem i93_8 : zfetch 93 8 = some (7, .invokestatic 209, 3) := by decide +kernel
theorem i93_11 : zfetch 93 11 = some (7, .ifCond .ne 9, 3) := by decide +kernel
theorem i93_14 : zfetch 93 14 = some (7, .aload_n 0, 1) := by decide +kernel
theorem i93_15 : zfetch 93 15 = some (7, .iconst 1, 1) := by decide +kernel
theorem i93_16 : zfetch 93 16 = some (7, .invokevirtual 72, 3) := by decide +kernel
theorem i93_19 : zfetch 93 19 = some (7, .ireturn, 1) := by decide +kernel
theorem i93_20 : zfetch 93 20 = some (7, .aload_n 0, 1) := by decide +kernel
theorem i93_21 : zfetch 93 21 = some (7, .getfield 35, 3) := by decide +kernel
theorem i93_24 : zfetch 93 24 = some (7, .iload_n 1, 1) := by decide +kernel
theorem i93_25 : zfetch 93 25 = some (7, .aaload, 1) := by decide +kernel
theorem i93_26 : zfetch 93 26 = some (7, .astore 6, 2) := by decide +kernel
theorem i93_28 : zfetch 93 28 = some (7, .aload_n 0, 1) := by decide +kernel
theorem i93_29 : zfetch 93 29 = some (7, .getfield 35, 3) := by decide +kernel
theorem i93_32 : zfetch 93 32 = some (7, .iload_n 3, 1) := by decide +kernel
theorem i93_33 : zfetch 93 33 = some (7, .aaload, 1) := by decide +kernel
theorem i93_34 : zfetch 93 34 = some (7, .astore 7, 2) := by decide +kernel
theorem i93_36 : zfetch 93 36 = some (7, .aload 6, 2) := by decide +kernel
theorem i93_38 : zfetch 93 38 = some (7, .invokevirtual 212, 3) := by decide +kernel
theorem i93_41 : zfetch 93 41 = some (7, .ifCond .ne 11, 3) := by decide +kernel
theorem i93_44 : zfetch 93 44 = some (7, .aload 7, 2) := by decide +kernel
theorem i93_46 : zfetch 93 46 = some (7, .invokevirtual 212, 3) := by decide +kernel
theorem i93_49 : zfetch 93 49 = some (7, .ifCond .eq 9, 3) := by decide +kernel
theorem i93_52 : zfetch 93 52 = some (7, .aload_n 0, 1) := by decide +kernel
theorem i93_53 : zfetch 93 53 = some (7, .iconst 2, 1) := by decide +kernel
theorem i93_54 : zfetch 93 54 = some (7, .invokevirtual 72, 3) := by decide +kernel
theorem i93_57 : zfetch 93 57 = some (7, .ireturn, 1) := by decide +kernel
theorem i93_58 : zfetch 93 58 = some (7, .aload 6, 2) := by decide +kernel
theorem i93_60 : zfetch 93 60 = some (7, .getfield 240, 3) := by decide +kernel
theorem i93_63 : zfetch 93 63 = some (7, .aload 7, 2) := by decide +kernel
theorem i93_65 : zfetch 93 65 = some (7, .getfield 240, 3) := by decide +kernel
theorem i93_68 : zfetch 93 68 = some (7, .if_icmp .eq 9, 3) := by decide +kernel
theorem i93_71 : zfetch 93 71 = some (7, .aload_n 0, 1) := by decide +kernel
theorem i93_72 : zfetch 93 72 = some (7, .iconst 5, 1) := by decide +kernel
theorem i93_73 : zfetch 93 73 = some (7, .invokevirtual 72, 3) := by decide +kernel
theorem i93_76 : zfetch 93 76 = some (7, .ireturn, 1) := by decide +kernel
theorem i93_77 : zfetch 93 77 = some (7, .aload 6, 2) := by decide +kernel
theorem i93_79 : zfetch 93 79 = some (7, .iload_n 2, 1) := by decide +kernel
theorem i93_80 : zfetch 93 80 = some (7, .iload 5, 2) := by decide +kernel
theorem i93_82 : zfetch 93 82 = some (7, .invokevirtual 243, 3) := by decide +kernel
theorem i93_85 : zfetch 93 85 = some (7, .ifCond .eq 15, 3) := by decide +kernel
theorem i93_88 : zfetch 93 88 = some (7, .aload 7, 2) := by decide +kernel
theorem i93_90 : zfetch 93 90 = some (7, .iload 4, 2) := by decide +kernel
theorem i93_92 : zfetch 93 92 = some (7, .iload 5, 2) := by decide +kernel
theorem i93_94 : zfetch 93 94 = some (7, .invokevirtual 243, 3) := by decide +kernel
theorem i93_97 : zfetch 93 97 = some (7, .ifCond .ne 9, 3) := by decide +kernel
theorem i93_100 : zfetch 93 100 = some (7, .aload_n 0, 1) := by decide +kernel
theorem i93_101 : zfetch 93 101 = some (7, .iconst 1, 1) := by decide +kernel
theorem i93_102 : zfetch 93 102 = some (7, .invokevirtual 72, 3) := by decide +kernel
theorem i93_105 : zfetch 93 105 = some (7, .ireturn, 1) := by decide +kernel
theorem i93_106 : zfetch 93 106 = some (7, .aload 6, 2) := by decide +kernel
theorem i93_108 : zfetch 93 108 = some (7, .getfield 246, 3) := by decide +kernel
theorem i93_111 : zfetch 93 111 = some (7, .iload_n 2, 1) := by decide +kernel
theorem i93_112 : zfetch 93 112 = some (7, .aload 7, 2) := by decide +kernel
theorem i93_114 : zfetch 93 114 = some (7, .getfield 246, 3) := by decide +kernel
theorem i93_117 : zfetch 93 117 = some (7, .iload 4, 2) := by decide +kernel
theorem i93_119 : zfetch 93 119 = some (7, .iload 5, 2) := by decide +kernel
theorem i93_121 : zfetch 93 121 = some (7, .invokestatic 249, 3) := by decide +kernel
theorem i93_124 : zfetch 93 124 = some (7, .iload 5, 2) := by decide +kernel
theorem i93_126 : zfetch 93 126 = some (7, .ireturn, 1) := by decide +kernel
theorem i94_0 : zfetch 94 0 = some (7, .iload_n 1, 1) := by decide +kernel
theorem i94_1 : zfetch 94 1 = some (7, .invokestatic 209, 3) := by decide +kernel
theorem i94_4 : zfetch 94 4 = some (7, .ifCond .ne 9, 3) := by decide +kernel
theorem i94_7 : zfetch 94 7 = some (7, .aload_n 0, 1) := by decide +kernel
theorem i94_8 : zfetch 94 8 = some (7, .iconst 1, 1) := by decide +kernel
theorem i94_9 : zfetch 94 9 = some (7, .invokevirtual 72, 3) := by decide +kernel
theorem i94_12 : zfetch 94 12 = some (7, .ireturn, 1) := by decide +kernel
theorem i94_13 : zfetch 94 13 = some (7, .aload_n 0, 1) := by decide +kernel
theorem i94_14 : zfetch 94 14 = some (7, .getfield 35, 3) := by decide +kernel
theorem i94_17 : zfetch 94 17 = some (7, .iload_n 1, 1) := by decide +kernel
theorem i94_18 : zfetch 94 18 = some (7, .aaload, 1) := by decide +kernel
theorem i94_19 : zfetch 94 19 = some (7, .astore_n 2, 1) := by decide +kernel
theorem i94_20 : zfetch 94 20 = some (7, .aload_n 2, 1) := by decide +kernel
theorem i94_21 : zfetch 94 21 = some (7, .invokevirtual 212, 3) := by decide +kernel
theorem i94_24 : zfetch 94 24 = some (7, .ifCond .eq 9, 3) := by decide +kernel
theorem i94_27 : zfetch 94 27 = some (7, .aload_n 0, 1) := by decide +kernel
theorem i94_28 : zfetch 94 28 = some (7, .iconst 2, 1) := by decide +kernel
theorem i94_29 : zfetch 94 29 = some (7, .invokevirtual 72, 3) := by decide +kernel
theorem i94_32 : zfetch 94 32 = some (7, .ireturn, 1) := by decide +kernel
theorem i94_33 : zfetch 94 33 = some (7, .iconst 0, 1) := by decide +kernel
theorem i94_34 : zfetch 94 34 = some (7, .istore_n 3, 1) := by decide +kernel
theorem i94_35 : zfetch 94 35 = some (7, .iconst 0, 1) := by decide +kernel
theorem i94_36 : zfetch 94 36 = some (7, .istore 4, 2) := by decide +kernel
theorem i94_38 : zfetch 94 38 = some (7, .iload 4, 2) := by decide +kernel
theorem i94_40 : zfetch 94 40 = some (7, .aload_n 2, 1) := by decide +kernel
theorem i94_41 : zfetch 94 41 = some (7, .getfield 236, 3) := by decide +kernel
theorem i94_44 : zfetch 94 44 = some (7, .if_icmp .ge 70, 3) := by decide +kernel
theorem i94_47 : zfetch 94 47 = some (7, .iload 4, 2) := by decide +kernel
theorem i94_49 : zfetch 94 49 = some (7, .aload_n 0, 1) := by decide +kernel
theorem i94_50 : zfetch 94 50 = some (7, .getfield 47, 3) := by decide +kernel
theorem i94_53 : zfetch 94 53 = some (7, .getfield 76, 3) := by decide +kernel
theorem i94_56 : zfetch 94 56 = some (7, .if_icmp .ge 58, 3) := by decide +kernel
theorem i94_59 : zfetch 94 59 = some (7, .aload_n 2, 1) := by decide +kernel
theorem i94_60 : zfetch 94 60 = some (7, .getfield 246, 3) := by decide +kernel
theorem i94_63 : zfetch 94 63 = some (7, .iload 4, 2) := by decide +kernel
theorem i94_65 : zfetch 94 65 = some (7, .iaload, 1) := by decide +kernel
theorem i94_66 : zfetch 94 66 = some (7, .bipush 99, 2) := by decide +kernel
theorem i94_68 : zfetch 94 68 = some (7, .invokestatic 64, 3) := by decide +kernel
theorem i94_71 : zfetch 94 71 = some (7, .ifCond .ne 5, 3) := by decide +kernel
theorem i94_74 : zfetch 94 74 = some (7, .iload_n 3, 1) := by decide +kernel
theorem i94_75 : zfetch 94 75 = some (7, .ireturn, 1) := by decide +kernel
theorem i94_76 : zfetch 94 76 = some (7, .aload_n 0, 1) := by decide +kernel
theorem i94_77 : zfetch 94 77 = some (7, .getfield 47, 3) := by decide +kernel
theorem i94_80 : zfetch 94 80 = some (7, .iload 4, 2) := by decide +kernel
theorem i94_82 : zfetch 94 82 = some (7, .invokevirtual 114, 3) := by decide +kernel
theorem i94_85 : zfetch 94 85 = some (7, .ifCond .eq 20, 3) := by decide +kernel
theorem i94_88 : zfetch 94 88 = some (7, .aload_n 0, 1) := by decide +kernel
theorem i94_89 : zfetch 94 89 = some (7, .getfield 47, 3) := by decide +kernel
theorem i94_92 : zfetch 94 92 = some (7, .getfield 99, 3) := by decide +kernel
theorem i94_95 : zfetch 94 95 = some (7, .iload 4, 2) := by decide +kernel
theorem i94_97 : zfetch 94 97 = some (7, .aload_n 2, 1) := by decide +kernel
theorem i94_98 : zfetch 94 98 = some (7, .getfield 246, 3) := by decide +kernel
theorem i94_101 : zfetch 94 101 = some (7, .iload 4, 2) := by decide +kernel
theorem i94_103 : zfetch 94 103 = some (7, .iaload, 1) := by decide +kernel
theorem i94_104 : zfetch 94 104 = some (7, .iastore, 1) := by decide +kernel
theorem i94_105 : zfetch 94 105 = some (7, .iinc 3 1, 3) := by decide +kernel
theorem i94_108 : zfetch 94 108 = some (7, .iinc 4 1, 3) := by decide +kernel
theorem i94_111 : zfetch 94 111 = some (7, .goto (-73), 3) := by decide +kernel
theorem i94_114 : zfetch 94 114 = some (7, .iload_n 3, 1) := by decide +kernel
theorem i94_115 : zfetch 94 115 = some (7, .ireturn, 1) := by decide +kernel
theorem i95_0 : zfetch 95 0 = some (7, .iload_n 1, 1) := by decide +kernel
theorem i95_1 : zfetch 95 1 = some (7, .invokestatic 209, 3) := by decide +kernel
theorem i95_4 : zfetch 95 4 = some (7, .ifCond .ne 9, 3) := by decide +kernel
theorem i95_7 : zfetch 95 7 = some (7, .aload_n 0, 1) := by decide +kernel
theorem i95_8 : zfetch 95 8 = some (7, .iconst 1, 1) := by decide +kernel
theorem i95_9 : zfetch 95 9 = some (7, .invokevirtual 72, 3) := by decide +kernel
theorem i95_12 : zfetch 95 12 = some (7, .ireturn, 1) := by decide +kernel
theorem i95_13 : zfetch 95 13 = some (7, .aload_n 0, 1) := by decide +kernel
theorem i95_14 : zfetch 95 14 = some (7, .getfield 35, 3) := by decide +kernel
theorem i95_17 : zfetch 95 17 = some (7, .iload_n 1, 1) := by decide +kernel
theorem i95_18 : zfetch 95 18 = some (7, .aaload, 1) := by decide +kernel
theorem i95_19 : zfetch 95 19 = some (7, .astore_n 2, 1) := by decide +kernel
theorem i95_20 : zfetch 95 20 = some (7, .aload_n 2, 1) := by decide +kernel
theorem i95_21 : zfetch 95 21 = some (7, .invokevirtual 212, 3) := by decide +kernel
theorem i95_24 : zfetch 95 24 = some (7, .ifCond .eq 9, 3) := by decide +kernel
theorem i95_27 : zfetch 95 27 = some (7, .aload_n 0, 1) := by decide +kernel
theorem i95_28 : zfetch 95 28 = some (7, .iconst 2, 1) := by decide +kernel
theorem i95_29 : zfetch 95 29 = some (7, .invokevirtual 72, 3) := by decide +kernel
theorem i95_32 : zfetch 95 32 = some (7, .ireturn, 1) := by decide +kernel
theorem i95_33 : zfetch 95 33 = some (7, .iconst 0, 1) := by decide +kernel
theorem i95_34 : zfetch 95 34 = some (7, .istore_n 3, 1) := by decide +kernel
theorem i95_35 : zfetch 95 35 = some (7, .iconst 0, 1) := by decide +kernel
theorem i95_36 : zfetch 95 36 = some (7, .istore 4, 2) := by decide +kernel
theorem i95_38 : zfetch 95 38 = some (7, .iload 4, 2) := by decide +kernel
theorem i95_40 : zfetch 95 40 = some (7, .aload_n 2, 1) := by decide +kernel
theorem i95_41 : zfetch 95 41 = some (7, .getfield 236, 3) := by decide +kernel
theorem i95_44 : zfetch 95 44 = some (7, .if_icmp .ge 46, 3) := by decide +kernel
theorem i95_47 : zfetch 95 47 = some (7, .iload 4, 2) := by decide +kernel
theorem i95_49 : zfetch 95 49 = some (7, .aload_n 0, 1) := by decide +kernel
theorem i95_50 : zfetch 95 50 = some (7, .getfield 47, 3) := by decide +kernel
theorem i95_53 : zfetch 95 53 = some (7, .getfield 76, 3) := by decide +kernel
theorem i95_56 : zfetch 95 56 = some (7, .if_icmp .ge 34, 3) := by decide +kernel
theorem i95_59 : zfetch 95 59 = some (7, .aload_n 2, 1) := by decide +kernel
theorem i95_60 : zfetch 95 60 = some (7, .getfield 246, 3) := by decide +kernel
theorem i95_63 : zfetch 95 63 = some (7, .iload 4, 2) := by decide +kernel
theorem i95_65 : zfetch 95 65 = some (7, .iaload, 1) := by decide +kernel
theorem i95_66 : zfetch 95 66 = some (7, .aload_n 0, 1) := by decide +kernel
theorem i95_67 : zfetch 95 67 = some (7, .getfield 47, 3) := by decide +kernel
theorem i95_70 : zfetch 95 70 = some (7, .getfield 93, 3) := by decide +kernel
theorem i95_73 : zfetch 95 73 = some (7, .iload 4, 2) := by decide +kernel
theorem i95_75 : zfetch 95 75 = some (7, .iaload, 1) := by decide +kernel
theorem i95_76 : zfetch 95 76 = some (7, .if_icmp .eq 5, 3) := by decide +kernel
theorem i95_79 : zfetch 95 79 = some (7, .iload_n 3, 1) := by decide +kernel
theorem i95_80 : zfetch 95 80 = some (7, .ireturn, 1) := by decide +kernel
theorem i95_81 : zfetch 95 81 = some (7, .iinc 3 1, 3) := by decide +kernel
theorem i95_84 : zfetch 95 84 = some (7, .iinc 4 1, 3) := by decide +kernel
theorem i95_87 : zfetch 95 87 = some (7, .goto (-49), 3) := by decide +kernel
theorem i95_90 : zfetch 95 90 = some (7, .iload_n 3, 1) := by decide +kernel
theorem i95_91 : zfetch 95 91 = some (7, .ireturn, 1) := by decide +kernel
theorem i96_0 : zfetch 96 0 = some (7, .aload_n 0, 1) := by decide +kernel
theorem i96_1 : zfetch 96 1 = some (7, .getfield 16, 3) := by decide +kernel
theorem i96_4 : zfetch 96 4 = some (7, .aload_n 0, 1) := by decide +kernel
theorem i96_5 : zfetch 96 5 = some (7, .getfield 10, 3) := by decide +kernel
theorem i96_8 : zfetch 96 8 = some (7, .invokevirtual 255, 3) := by decide +kernel
theorem i96_11 : zfetch 96 11 = some (7, .aload_n 0, 1) := by decide +kernel
theorem i96_12 : zfetch 96 12 = some (7, .dup, 1) := by decide +kernel
theorem i96_13 : zfetch 96 13 = some (7, .getfield 258, 3) := by decide +kernel
theorem i96_16 : zfetch 96 16 = some (7, .iconst 1, 1) := by decide +kernel
theorem i96_17 : zfetch 96 17 = some (7, .iadd, 1) := by decide +kernel
theorem i96_18 : zfetch 96 18 = some (7, .putfield 258, 3) := by decide +kernel
theorem i96_21 : zfetch 96 21 = some (7, .aload_n 0, 1) := by decide +kernel
theorem i96_22 : zfetch 96 22 = some (7, .getfield 258, 3) := by decide +kernel
theorem i96_25 : zfetch 96 25 = some (7, .ireturn, 1) := by decide +kernel
theorem i97_0 : zfetch 97 0 = some (7, .aload_n 0, 1) := by decide +kernel
theorem i97_1 : zfetch 97 1 = some (7, .getfield 258, 3) := by decide +kernel
theorem i97_4 : zfetch 97 4 = some (7, .ifCond .ne 9, 3) := by decide +kernel
theorem i97_7 : zfetch 97 7 = some (7, .aload_n 0, 1) := by decide +kernel
theorem i97_8 : zfetch 97 8 = some (7, .iconst 2, 1) := by decide +kernel
theorem i97_9 : zfetch 97 9 = some (7, .invokevirtual 72, 3) := by decide +kernel
theorem i97_12 : zfetch 97 12 = some (7, .ireturn, 1) := by decide +kernel
theorem i97_13 : zfetch 97 13 = some (7, .aload_n 0, 1) := by decide +kernel
theorem i97_14 : zfetch 97 14 = some (7, .getfield 10, 3) := by decide +kernel
theorem i97_17 : zfetch 97 17 = some (7, .aload_n 0, 1) := by decide +kernel
theorem i97_18 : zfetch 97 18 = some (7, .getfield 16, 3) := by decide +kernel
theorem i97_21 : zfetch 97 21 = some (7, .invokevirtual 255, 3) := by decide +kernel
theorem i97_24 : zfetch 97 24 = some (7, .aload_n 0, 1) := by decide +kernel
theorem i97_25 : zfetch 97 25 = some (7, .getfield 47, 3) := by decide +kernel
theorem i97_28 : zfetch 97 28 = some (7, .getfield 158, 3) := by decide +kernel
theorem i97_31 : zfetch 97 31 = some (7, .ireturn, 1) := by decide +kernel
theorem i98_0 : zfetch 98 0 = some (7, .aload_n 0, 1) := by decide +kernel
theorem i98_1 : zfetch 98 1 = some (7, .getfield 10, 3) := by decide +kernel
theorem i98_4 : zfetch 98 4 = some (7, .getfield 261, 3) := by decide +kernel
theorem i98_7 : zfetch 98 7 = some (7, .getfield 128, 3) := by decide +kernel
theorem i98_10 : zfetch 98 10 = some (7, .bipush 24, 2) := by decide +kernel
theorem i98_12 : zfetch 98 12 = some (7, .if_icmp .lt 9, 3) := by decide +kernel
theorem i98_15 : zfetch 98 15 = some (7, .aload_n 0, 1) := by decide +kernel
theorem i98_16 : zfetch 98 16 = some (7, .iconst 4, 1) := by decide +kernel
theorem i98_17 : zfetch 98 17 = some (7, .invokevirtual 72, 3) := by decide +kernel
theorem i98_20 : zfetch 98 20 = some (7, .ireturn, 1) := by decide +kernel
theorem i98_21 : zfetch 98 21 = some (7, .aload_n 0, 1) := by decide +kernel
theorem i98_22 : zfetch 98 22 = some (7, .getfield 10, 3) := by decide +kernel
theorem i98_25 : zfetch 98 25 = some (7, .getfield 261, 3) := by decide +kernel
theorem i98_28 : zfetch 98 28 = some (7, .iload_n 1, 1) := by decide +kernel
theorem i98_29 : zfetch 98 29 = some (7, .invokevirtual 133, 3) := by decide +kernel
theorem i98_32 : zfetch 98 32 = some (7, .aload_n 0, 1) := by decide +kernel
theorem i98_33 : zfetch 98 33 = some (7, .getfield 10, 3) := by decide +kernel
theorem i98_36 : zfetch 98 36 = some (7, .getfield 261, 3) := by decide +kernel
theorem i98_39 : zfetch 98 39 = some (7, .getfield 128, 3) := by decide +kernel
theorem i98_42 : zfetch 98 42 = some (7, .ireturn, 1) := by decide +kernel
theorem i99_0 : zfetch 99 0 = some (7, .aload_n 0, 1) := by decide +kernel
theorem i99_1 : zfetch 99 1 = some (7, .getfield 10, 3) := by decide +kernel
theorem i99_4 : zfetch 99 4 = some (7, .getfield 261, 3) := by decide +kernel
theorem i99_7 : zfetch 99 7 = some (7, .getfield 128, 3) := by decide +kernel
theorem i99_10 : zfetch 99 10 = some (7, .istore_n 1, 1) := by decide +kernel
theorem i99_11 : zfetch 99 11 = some (7, .aload_n 0, 1) := by decide +kernel
theorem i99_12 : zfetch 99 12 = some (7, .getfield 10, 3) := by decide +kernel
theorem i99_15 : zfetch 99 15 = some (7, .getfield 261, 3) := by decide +kernel
theorem i99_18 : zfetch 99 18 = some (7, .iconst 0, 1) := by decide +kernel
theorem i99_19 : zfetch 99 19 = some (7, .putfield 128, 3) := by decide +kernel
theorem i99_22 : zfetch 99 22 = some (7, .iconst 0, 1) := by decide +kernel
theorem i99_23 : zfetch 99 23 = some (7, .istore_n 2, 1) := by decide +kernel
theorem i99_24 : zfetch 99 24 = some (7, .iload_n 2, 1) := by decide +kernel
theorem i99_25 : zfetch 99 25 = some (7, .iload_n 1, 1) := by decide +kernel
theorem i99_26 : zfetch 99 26 = some (7, .if_icmp .ge 44, 3) := by decide +kernel
theorem i99_29 : zfetch 99 29 = some (7, .aload_n 0, 1) := by decide +kernel
theorem i99_30 : zfetch 99 30 = some (7, .iload_n 2, 1) := by decide +kernel
theorem i99_31 : zfetch 99 31 = some (7, .invokevirtual 68, 3) := by decide +kernel
theorem i99_34 : zfetch 99 34 = some (7, .ifCond .eq 26, 3) := by decide +kernel
theorem i99_37 : zfetch 99 37 = some (7, .aload_n 0, 1) := by decide +kernel
theorem i99_38 : zfetch 99 38 = some (7, .getfield 10, 3) := by decide +kernel
theorem i99_41 : zfetch 99 41 = some (7, .getfield 261, 3) := by decide +kernel
theorem i99_44 : zfetch 99 44 = some (7, .getfield 264, 3) := by decide +kernel
theorem i99_47 : zfetch 99 47 = some (7, .iload_n 2, 1) := by decide +kernel
theorem i99_48 : zfetch 99 48 = some (7, .iaload, 1) := by decide +kernel
theorem i99_49 : zfetch 99 49 = some (7, .aload_n 0, 1) := by decide +kernel
theorem i99_50 : zfetch 99 50 = some (7, .getfield 47, 3) := by decide +kernel
theorem i99_53 : zfetch 99 53 = some (7, .iload_n 2, 1) := by decide +kernel
theorem i99_54 : zfetch 99 54 = some (7, .invokevirtual 108, 3) := by decide +kernel
theorem i99_57 : zfetch 99 57 = some (7, .if_icmp .eq 7, 3) := by decide +kernel
theorem i99_60 : zfetch 99 60 = some (7, .iload_n 2, 1) := by decide +kernel
theorem i99_61 : zfetch 99 61 = some (7, .iconst 1, 1) := by decide +kernel
theorem i99_62 : zfetch 99 62 = some (7, .iadd, 1) := by decide +kernel
theorem i99_63 : zfetch 99 63 = some (7, .ireturn, 1) := by decide +kernel
theorem i99_64 : zfetch 99 64 = some (7, .iinc 2 1, 3) := by decide +kernel
theorem i99_67 : zfetch 99 67 = some (7, .goto (-43), 3) := by decide +kernel
theorem i99_70 : zfetch 99 70 = some (7, .iconst 0, 1) := by decide +kernel
theorem i99_71 : zfetch 99 71 = some (7, .ireturn, 1) := by decide +kernel
theorem i100_0 : zfetch 100 0 = some (7, .iload_n 1, 1) := by decide +kernel
theorem i100_1 : zfetch 100 1 = some (7, .tableswitch 155 0 9 #[55, 63, 71, 79, 87, 102, 117, 128, 139, 147], 55) := by decide +kernel
theorem i100_56 : zfetch 100 56 = some (7, .aload_n 0, 1) := by decide +kernel
theorem i100_57 : zfetch 100 57 = some (7, .getfield 47, 3) := by decide +kernel
theorem i100_60 : zfetch 100 60 = some (7, .getfield 76, 3) := by decide +kernel
theorem i100_63 : zfetch 100 63 = some (7, .ireturn, 1) := by decide +kernel
theorem i100_64 : zfetch 100 64 = some (7, .aload_n 0, 1) := by decide +kernel
theorem i100_65 : zfetch 100 65 = some (7, .getfield 47, 3) := by decide +kernel
theorem i100_68 : zfetch 100 68 = some (7, .getfield 158, 3) := by decide +kernel
theorem i100_71 : zfetch 100 71 = some (7, .ireturn, 1) := by decide +kernel
theorem i100_72 : zfetch 100 72 = some (7, .aload_n 0, 1) := by decide +kernel
theorem i100_73 : zfetch 100 73 = some (7, .getfield 47, 3) := by decide +kernel
theorem i100_76 : zfetch 100 76 = some (7, .getfield 164, 3) := by decide +kernel
theorem i100_79 : zfetch 100 79 = some (7, .ireturn, 1) := by decide +kernel
theorem i100_80 : zfetch 100 80 = some (7, .aload_n 0, 1) := by decide +kernel
theorem i100_81 : zfetch 100 81 = some (7, .getfield 47, 3) := by decide +kernel
theorem i100_84 : zfetch 100 84 = some (7, .invokevirtual 198, 3) := by decide +kernel
theorem i100_87 : zfetch 100 87 = some (7, .ireturn, 1) := by decide +kernel
theorem i100_88 : zfetch 100 88 = some (7, .aload_n 0, 1) := by decide +kernel
theorem i100_89 : zfetch 100 89 = some (7, .getfield 47, 3) := by decide +kernel
theorem i100_92 : zfetch 100 92 = some (7, .aload_n 0, 1) := by decide +kernel
theorem i100_93 : zfetch 100 93 = some (7, .getfield 47, 3) := by decide +kernel
theorem i100_96 : zfetch 100 96 = some (7, .getfield 96, 3) := by decide +kernel
theorem i100_99 : zfetch 100 99 = some (7, .invokevirtual 265, 3) := by decide +kernel
theorem i100_102 : zfetch 100 102 = some (7, .ireturn, 1) := by decide +kernel
theorem i100_103 : zfetch 100 103 = some (7, .aload_n 0, 1) := by decide +kernel
theorem i100_104 : zfetch 100 104 = some (7, .getfield 47, 3) := by decide +kernel
theorem i100_107 : zfetch 100 107 = some (7, .aload_n 0, 1) := by decide +kernel
theorem i100_108 : zfetch 100 108 = some (7, .getfield 47, 3) := by decide +kernel
theorem i100_111 : zfetch 100 111 = some (7, .getfield 99, 3) := by decide +kernel
theorem i100_114 : zfetch 100 114 = some (7, .invokevirtual 265, 3) := by decide +kernel
theorem i100_117 : zfetch 100 117 = some (7, .ireturn, 1) := by decide +kernel
theorem i100_118 : zfetch 100 118 = some (7, .aload_n 0, 1) := by decide +kernel
theorem i100_119 : zfetch 100 119 = some (7, .getfield 10, 3) := by decide +kernel
theorem i100_122 : zfetch 100 122 = some (7, .getfield 124, 3) := by decide +kernel
theorem i100_125 : zfetch 100 125 = some (7, .getfield 128, 3) := by decide +kernel
theorem i100_128 : zfetch 100 128 = some (7, .ireturn, 1) := by decide +kernel
theorem i100_129 : zfetch 100 129 = some (7, .aload_n 0, 1) := by decide +kernel
theorem i100_130 : zfetch 100 130 = some (7, .getfield 10, 3) := by decide +kernel
theorem i100_133 : zfetch 100 133 = some (7, .getfield 261, 3) := by decide +kernel
theorem i100_136 : zfetch 100 136 = some (7, .getfield 128, 3) := by decide +kernel
theorem i100_139 : zfetch 100 139 = some (7, .ireturn, 1) := by decide +kernel
theorem i100_140 : zfetch 100 140 = some (7, .aload_n 0, 1) := by decide +kernel
theorem i100_141 : zfetch 100 141 = some (7, .getfield 29, 3) := by decide +kernel
theorem i100_144 : zfetch 100 144 = some (7, .getfield 228, 3) := by decide +kernel
theorem i100_147 : zfetch 100 147 = some (7, .ireturn, 1) := by decide +kernel
theorem i100_148 : zfetch 100 148 = some (7, .aload_n 0, 1) := by decide +kernel
theorem i100_149 : zfetch 100 149 = some (7, .getfield 47, 3) := by decide +kernel
theorem i100_152 : zfetch 100 152 = some (7, .getfield 173, 3) := by decide +kernel
theorem i100_155 : zfetch 100 155 = some (7, .ireturn, 1) := by decide +kernel
theorem i100_156 : zfetch 100 156 = some (7, .aload_n 0, 1) := by decide +kernel
theorem i100_157 : zfetch 100 157 = some (7, .iconst 1, 1) := by decide +kernel
theorem i100_158 : zfetch 100 158 = some (7, .invokevirtual 72, 3) := by decide +kernel
theorem i100_161 : zfetch 100 161 = some (7, .ireturn, 1) := by decide +kernel
theorem i101_0 : zfetch 101 0 = some (7, .iload_n 1, 1) := by decide +kernel
theorem i101_1 : zfetch 101 1 = some (7, .iconst 1, 1) := by decide +kernel
theorem i101_2 : zfetch 101 2 = some (7, .if_icmp .lt 18, 3) := by decide +kernel
theorem i101_5 : zfetch 101 5 = some (7, .iload_n 1, 1) := by decide +kernel
theorem i101_6 : zfetch 101 6 = some (7, .bipush 6, 2) := by decide +kernel
theorem i101_8 : zfetch 101 8 = some (7, .if_icmp .gt 12, 3) := by decide +kernel
theorem i101_11 : zfetch 101 11 = some (7, .aload_n 0, 1) := by decide +kernel
theorem i101_12 : zfetch 101 12 = some (7, .getfield 39, 3) := by decide +kernel
theorem i101_15 : zfetch 101 15 = some (7, .iload_n 1, 1) := by decide +kernel
theorem i101_16 : zfetch 101 16 = some (7, .iaload, 1) := by decide +kernel
theorem i101_17 : zfetch 101 17 = some (7, .goto 8, 3) := by decide +kernel
theorem i101_20 : zfetch 101 20 = some (7, .aload_n 0, 1) := by decide +kernel
theorem i101_21 : zfetch 101 21 = some (7, .iconst 1, 1) := by decide +kernel
theorem i101_22 : zfetch 101 22 = some (7, .invokevirtual 72, 3) := by decide +kernel
theorem i101_25 : zfetch 101 25 = some (7, .ireturn, 1) := by decide +kernel
theorem i102_0 : zfetch 102 0 = some (7, .iload_n 1, 1) := by decide +kernel
theorem i102_1 : zfetch 102 1 = some (7, .iconst 1, 1) := by decide +kernel
theorem i102_2 : zfetch 102 2 = some (7, .if_icmp .lt 19, 3) := by decide +kernel
theorem i102_5 : zfetch 102 5 = some (7, .iload_n 1, 1) := by decide +kernel
theorem i102_6 : zfetch 102 6 = some (7, .bipush 6, 2) := by decide +kernel
theorem i102_8 : zfetch 102 8 = some (7, .if_icmp .gt 13, 3) := by decide +kernel
theorem i102_11 : zfetch 102 11 = some (7, .aload_n 0, 1) := by decide +kernel
theorem i102_12 : zfetch 102 12 = some (7, .getfield 39, 3) := by decide +kernel
theorem i102_15 : zfetch 102 15 = some (7, .iload_n 1, 1) := by decide +kernel
theorem i102_16 : zfetch 102 16 = some (7, .dup2, 1) := by decide +kernel
theorem i102_17 : zfetch 102 17 = some (7, .iaload, 1) := by decide +kernel
theorem i102_18 : zfetch 102 18 = some (7, .iconst 1, 1) := by decide +kernel
theorem i102_19 : zfetch 102 19 = some (7, .iadd, 1) := by decide +kernel
theorem i102_20 : zfetch 102 20 = some (7, .iastore, 1) := by decide +kernel
theorem i102_21 : zfetch 102 21 = some (7, .ldc_w 269, 3) := by decide +kernel
theorem i102_24 : zfetch 102 24 = some (7, .iload_n 1, 1) := by decide +kernel
theorem i102_25 : zfetch 102 25 = some (7, .isub, 1) := by decide +kernel
theorem i102_26 : zfetch 102 26 = some (7, .ireturn, 1) := by decide +kernel
theorem i103_0 : zfetch 103 0 = some (7, .iload_n 0, 1) := by decide +kernel
theorem i103_1 : zfetch 103 1 = some (7, .ifCond .lt 12, 3) := by decide +kernel
theorem i103_4 : zfetch 103 4 = some (7, .iload_n 0, 1) := by decide +kernel
theorem i103_5 : zfetch 103 5 = some (7, .iload_n 1, 1) := by decide +kernel
theorem i103_6 : zfetch 103 6 = some (7, .if_icmp .gt 7, 3) := by decide +kernel
theorem i103_9 : zfetch 103 9 = some (7, .iconst 1, 1) := by decide +kernel
theorem i103_10 : zfetch 103 10 = some (7, .goto 4, 3) := by decide +kernel
theorem i103_13 : zfetch 103 13 = some (7, .iconst 0, 1) := by decide +kernel
theorem i103_14 : zfetch 103 14 = some (7, .ireturn, 1) := by decide +kernel
theorem i104_0 : zfetch 104 0 = some (7, .iload_n 1, 1) := by decide +kernel
theorem i104_1 : zfetch 104 1 = some (7, .ifCond .lt 18, 3) := by decide +kernel
theorem i104_4 : zfetch 104 4 = some (7, .iload_n 1, 1) := by decide +kernel
theorem i104_5 : zfetch 104 5 = some (7, .aload_n 0, 1) := by decide +kernel
theorem i104_6 : zfetch 104 6 = some (7, .getfield 47, 3) := by decide +kernel
theorem i104_9 : zfetch 104 9 = some (7, .getfield 76, 3) := by decide +kernel
theorem i104_12 : zfetch 104 12 = some (7, .if_icmp .ge 7, 3) := by decide +kernel
theorem i104_15 : zfetch 104 15 = some (7, .iconst 1, 1) := by decide +kernel
theorem i104_16 : zfetch 104 16 = some (7, .goto 4, 3) := by decide +kernel
theorem i104_19 : zfetch 104 19 = some (7, .iconst 0, 1) := by decide +kernel
theorem i104_20 : zfetch 104 20 = some (7, .ireturn, 1) := by decide +kernel
theorem i105_0 : zfetch 105 0 = some (7, .iload_n 0, 1) := by decide +kernel
theorem i105_1 : zfetch 105 1 = some (7, .ifCond .lt 12, 3) := by decide +kernel
theorem i105_4 : zfetch 105 4 = some (7, .iload_n 0, 1) := by decide +kernel
theorem i105_5 : zfetch 105 5 = some (7, .iconst 4, 1) := by decide +kernel
theorem i105_6 : zfetch 105 6 = some (7, .if_icmp .ge 7, 3) := by decide +kernel
theorem i105_9 : zfetch 105 9 = some (7, .iconst 1, 1) := by decide +kernel
theorem i105_10 : zfetch 105 10 = some (7, .goto 4, 3) := by decide +kernel
theorem i105_13 : zfetch 105 13 = some (7, .iconst 0, 1) := by decide +kernel
theorem i105_14 : zfetch 105 14 = some (7, .ireturn, 1) := by decide +kernel
theorem i106_0 : zfetch 106 0 = some (7, .iload_n 1, 1) := by decide +kernel
theorem i106_1 : zfetch 106 1 = some (7, .ifCond .ne 13, 3) := by decide +kernel
theorem i106_4 : zfetch 106 4 = some (7, .aload_n 0, 1) := by decide +kernel
theorem i106_5 : zfetch 106 5 = some (7, .getfield 10, 3) := by decide +kernel
theorem i106_8 : zfetch 106 8 = some (7, .getfield 50, 3) := by decide +kernel
theorem i106_11 : zfetch 106 11 = some (7, .goto 10, 3) := by decide +kernel
theorem i106_14 : zfetch 106 14 = some (7, .aload_n 0, 1) := by decide +kernel
theorem i106_15 : zfetch 106 15 = some (7, .getfield 10, 3) := by decide +kernel
theorem i106_18 : zfetch 106 18 = some (7, .getfield 54, 3) := by decide +kernel
theorem i106_21 : zfetch 106 21 = some (7, .areturn, 1) := by decide +kernel
theorem i107_0 : zfetch 107 0 = some (7, .aload_n 0, 1) := by decide +kernel
theorem i107_1 : zfetch 107 1 = some (7, .getfield 60, 3) := by decide +kernel
theorem i107_4 : zfetch 107 4 = some (7, .aload_n 0, 1) := by decide +kernel
theorem i107_5 : zfetch 107 5 = some (7, .getfield 47, 3) := by decide +kernel
theorem i107_8 : zfetch 107 8 = some (7, .invokevirtual 194, 3) := by decide +kernel
theorem i107_11 : zfetch 107 11 = some (7, .aload_n 0, 1) := by decide +kernel
theorem i107_12 : zfetch 107 12 = some (7, .getfield 60, 3) := by decide +kernel
theorem i107_15 : zfetch 107 15 = some (7, .getfield 99, 3) := by decide +kernel
theorem i107_18 : zfetch 107 18 = some (7, .iload_n 1, 1) := by decide +kernel
theorem i107_19 : zfetch 107 19 = some (7, .iload_n 2, 1) := by decide +kernel
theorem i107_20 : zfetch 107 20 = some (7, .iastore, 1) := by decide +kernel
theorem i107_21 : zfetch 107 21 = some (7, .iconst 0, 1) := by decide +kernel
theorem i107_22 : zfetch 107 22 = some (7, .istore 4, 2) := by decide +kernel
theorem i107_24 : zfetch 107 24 = some (7, .iload 4, 2) := by decide +kernel
theorem i107_26 : zfetch 107 26 = some (7, .iload_n 3, 1) := by decide +kernel
theorem i107_27 : zfetch 107 27 = some (7, .if_icmp .ge 27, 3) := by decide +kernel
theorem i107_30 : zfetch 107 30 = some (7, .aload_n 0, 1) := by decide +kernel
theorem i107_31 : zfetch 107 31 = some (7, .getfield 60, 3) := by decide +kernel
theorem i107_34 : zfetch 107 34 = some (7, .iload_n 1, 1) := by decide +kernel
theorem i107_35 : zfetch 107 35 = some (7, .invokevirtual 114, 3) := by decide +kernel
theorem i107_38 : zfetch 107 38 = some (7, .ifCond .eq 16, 3) := by decide +kernel
theorem i107_41 : zfetch 107 41 = some (7, .aload_n 0, 1) := by decide +kernel
theorem i107_42 : zfetch 107 42 = some (7, .getfield 60, 3) := by decide +kernel
theorem i107_45 : zfetch 107 45 = some (7, .invokevirtual 170, 3) := by decide +kernel
theorem i107_48 : zfetch 107 48 = some (7, .iinc 4 1, 3) := by decide +kernel
theorem i107_51 : zfetch 107 51 = some (7, .goto (-27), 3) := by decide +kernel
theorem i107_54 : zfetch 107 54 = some (7, .aload_n 0, 1) := by decide +kernel
theorem i107_55 : zfetch 107 55 = some (7, .getfield 60, 3) := by decide +kernel
theorem i107_58 : zfetch 107 58 = some (7, .iload_n 1, 1) := by decide +kernel
theorem i107_59 : zfetch 107 59 = some (7, .invokevirtual 114, 3) := by decide +kernel
theorem i107_62 : zfetch 107 62 = some (7, .ireturn, 1) := by decide +kernel
theorem i108_0 : zfetch 108 0 = some (7, .aload_n 0, 1) := by decide +kernel
theorem i108_1 : zfetch 108 1 = some (7, .getfield 60, 3) := by decide +kernel
theorem i108_4 : zfetch 108 4 = some (7, .aload_n 0, 1) := by decide +kernel
theorem i108_5 : zfetch 108 5 = some (7, .getfield 47, 3) := by decide +kernel
theorem i108_8 : zfetch 108 8 = some (7, .invokevirtual 194, 3) := by decide +kernel
theorem i108_11 : zfetch 108 11 = some (7, .iconst 0, 1) := by decide +kernel
theorem i108_12 : zfetch 108 12 = some (7, .istore 4, 2) := by decide +kernel
theorem i108_14 : zfetch 108 14 = some (7, .iload 4, 2) := by decide +kernel
theorem i108_16 : zfetch 108 16 = some (7, .aload_n 0, 1) := by decide +kernel
theorem i108_17 : zfetch 108 17 = some (7, .getfield 60, 3) := by decide +kernel
theorem i108_20 : zfetch 108 20 = some (7, .getfield 76, 3) := by decide +kernel
theorem i108_23 : zfetch 108 23 = some (7, .if_icmp .ge 27, 3) := by decide +kernel
theorem i108_26 : zfetch 108 26 = some (7, .iload_n 1, 1) := by decide +kernel
theorem i108_27 : zfetch 108 27 = some (7, .iload 4, 2) := by decide +kernel
theorem i108_29 : zfetch 108 29 = some (7, .ishr, 1) := by decide +kernel
theorem i108_30 : zfetch 108 30 = some (7, .iconst 1, 1) := by decide +kernel
theorem i108_31 : zfetch 108 31 = some (7, .iand, 1) := by decide +kernel
theorem i108_32 : zfetch 108 32 = some (7, .ifCond .eq 12, 3) := by decide +kernel
theorem i108_35 : zfetch 108 35 = some (7, .aload_n 0, 1) := by decide +kernel
theorem i108_36 : zfetch 108 36 = some (7, .getfield 60, 3) := by decide +kernel
theorem i108_39 : zfetch 108 39 = some (7, .iload 4, 2) := by decide +kernel
theorem i108_41 : zfetch 108 41 = some (7, .invokevirtual 117, 3) := by decide +kernel
theorem i108_44 : zfetch 108 44 = some (7, .iinc 4 1, 3) := by decide +kernel
theorem i108_47 : zfetch 108 47 = some (7, .goto (-33), 3) := by decide +kernel
theorem i108_50 : zfetch 108 50 = some (7, .iconst 0, 1) := by decide +kernel
theorem i108_51 : zfetch 108 51 = some (7, .istore 4, 2) := by decide +kernel
theorem i108_53 : zfetch 108 53 = some (7, .iload 4, 2) := by decide +kernel
theorem i108_55 : zfetch 108 55 = some (7, .iload_n 3, 1) := by decide +kernel
theorem i108_56 : zfetch 108 56 = some (7, .if_icmp .ge 16, 3) := by decide +kernel
theorem i108_59 : zfetch 108 59 = some (7, .aload_n 0, 1) := by decide +kernel
theorem i108_60 : zfetch 108 60 = some (7, .getfield 60, 3) := by decide +kernel
theorem i108_63 : zfetch 108 63 = some (7, .invokevirtual 170, 3) := by decide +kernel
theorem i108_66 : zfetch 108 66 = some (7, .iinc 4 1, 3) := by decide +kernel
theorem i108_69 : zfetch 108 69 = some (7, .goto (-16), 3) := by decide +kernel
theorem i108_72 : zfetch 108 72 = some (7, .aload_n 0, 1) := by decide +kernel
theorem i108_73 : zfetch 108 73 = some (7, .getfield 60, 3) := by decide +kernel
theorem i108_76 : zfetch 108 76 = some (7, .getfield 93, 3) := by decide +kernel
theorem i108_79 : zfetch 108 79 = some (7, .iload_n 2, 1) := by decide +kernel
theorem i108_80 : zfetch 108 80 = some (7, .iaload, 1) := by decide +kernel
theorem i108_81 : zfetch 108 81 = some (7, .ireturn, 1) := by decide +kernel
theorem i109_0 : zfetch 109 0 = some (7, .aload_n 0, 1) := by decide +kernel
theorem i109_1 : zfetch 109 1 = some (7, .getfield 60, 3) := by decide +kernel
theorem i109_4 : zfetch 109 4 = some (7, .aload_n 0, 1) := by decide +kernel
theorem i109_5 : zfetch 109 5 = some (7, .getfield 47, 3) := by decide +kernel
theorem i109_8 : zfetch 109 8 = some (7, .invokevirtual 194, 3) := by decide +kernel
theorem i109_11 : zfetch 109 11 = some (7, .aload_n 0, 1) := by decide +kernel
theorem i109_12 : zfetch 109 12 = some (7, .getfield 60, 3) := by decide +kernel
theorem i109_15 : zfetch 109 15 = some (7, .getfield 84, 3) := by decide +kernel
theorem i109_18 : zfetch 109 18 = some (7, .iload_n 2, 1) := by decide +kernel
theorem i109_19 : zfetch 109 19 = some (7, .iload_n 3, 1) := by decide +kernel
theorem i109_20 : zfetch 109 20 = some (7, .iastore, 1) := by decide +kernel
theorem i109_21 : zfetch 109 21 = some (7, .iconst 0, 1) := by decide +kernel
theorem i109_22 : zfetch 109 22 = some (7, .istore 4, 2) := by decide +kernel
theorem i109_24 : zfetch 109 24 = some (7, .iload 4, 2) := by decide +kernel
theorem i109_26 : zfetch 109 26 = some (7, .aload_n 1, 1) := by decide +kernel
theorem i109_27 : zfetch 109 27 = some (7, .getfield 236, 3) := by decide +kernel
theorem i109_30 : zfetch 109 30 = some (7, .if_icmp .ge 37, 3) := by decide +kernel
theorem i109_33 : zfetch 109 33 = some (7, .aload_n 1, 1) := by decide +kernel
theorem i109_34 : zfetch 109 34 = some (7, .getfield 246, 3) := by decide +kernel
theorem i109_37 : zfetch 109 37 = some (7, .iload 4, 2) := by decide +kernel
theorem i109_39 : zfetch 109 39 = some (7, .iaload, 1) := by decide +kernel
theorem i109_40 : zfetch 109 40 = some (7, .aload_n 0, 1) := by decide +kernel
theorem i109_41 : zfetch 109 41 = some (7, .getfield 60, 3) := by decide +kernel
theorem i109_44 : zfetch 109 44 = some (7, .getfield 93, 3) := by decide +kernel
theorem i109_47 : zfetch 109 47 = some (7, .iload_n 2, 1) := by decide +kernel
theorem i109_48 : zfetch 109 48 = some (7, .iaload, 1) := by decide +kernel
theorem i109_49 : zfetch 109 49 = some (7, .if_icmp .eq 5, 3) := by decide +kernel
theorem i109_52 : zfetch 109 52 = some (7, .iconst 0, 1) := by decide +kernel
theorem i109_53 : zfetch 109 53 = some (7, .ireturn, 1) := by decide +kernel
theorem i109_54 : zfetch 109 54 = some (7, .aload_n 0, 1) := by decide +kernel
theorem i109_55 : zfetch 109 55 = some (7, .getfield 60, 3) := by decide +kernel
theorem i109_58 : zfetch 109 58 = some (7, .invokevirtual 170, 3) := by decide +kernel
theorem i109_61 : zfetch 109 61 = some (7, .iinc 4 1, 3) := by decide +kernel
theorem i109_64 : zfetch 109 64 = some (7, .goto (-40), 3) := by decide +kernel
theorem i109_67 : zfetch 109 67 = some (7, .iconst 1, 1) := by decide +kernel
theorem i109_68 : zfetch 109 68 = some (7, .ireturn, 1) := by decide +kernel
theorem i110_0 : zfetch 110 0 = some (8, .aload_n 0, 1) := by decide +kernel
theorem i110_1 : zfetch 110 1 = some (8, .getfield 22, 3) := by decide +kernel
theorem i110_4 : zfetch 110 4 = some (8, .iload_n 1, 1) := by decide +kernel
theorem i110_5 : zfetch 110 5 = some (8, .dup2, 1) := by decide +kernel
theorem i110_6 : zfetch 110 6 = some (8, .iaload, 1) := by decide +kernel
theorem i110_7 : zfetch 110 7 = some (8, .iconst 1, 1) := by decide +kernel
theorem i110_8 : zfetch 110 8 = some (8, .iadd, 1) := by decide +kernel
theorem i110_9 : zfetch 110 9 = some (8, .iastore, 1) := by decide +kernel
theorem i110_10 : zfetch 110 10 = some (8, .ldc 49, 2) := by decide +kernel
theorem i110_12 : zfetch 110 12 = some (8, .iload_n 1, 1) := by decide +kernel
theorem i110_13 : zfetch 110 13 = some (8, .isub, 1) := by decide +kernel
theorem i110_14 : zfetch 110 14 = some (8, .ireturn, 1) := by decide +kernel
theorem i111_0 : zfetch 111 0 = some (8, .iload_n 0, 1) := by decide +kernel
theorem i111_1 : zfetch 111 1 = some (8, .iload_n 1, 1) := by decide +kernel
theorem i111_2 : zfetch 111 2 = some (8, .if_icmp .lt 12, 3) := by decide +kernel
theorem i111_5 : zfetch 111 5 = some (8, .iload_n 0, 1) := by decide +kernel
theorem i111_6 : zfetch 111 6 = some (8, .iload_n 2, 1) := by decide +kernel
theorem i111_7 : zfetch 111 7 = some (8, .if_icmp .gt 7, 3) := by decide +kernel
theorem i111_10 : zfetch 111 10 = some (8, .iconst 1, 1) := by decide +kernel
theorem i111_11 : zfetch 111 11 = some (8, .goto 4, 3) := by decide +kernel
theorem i111_14 : zfetch 111 14 = some (8, .iconst 0, 1) := by decide +kernel
theorem i111_15 : zfetch 111 15 = some (8, .ireturn, 1) := by decide +kernel
theorem i112_0 : zfetch 112 0 = some (8, .iload_n 0, 1) := by decide +kernel
theorem i112_1 : zfetch 112 1 = some (8, .iload_n 1, 1) := by decide +kernel
theorem i112_2 : zfetch 112 2 = some (8, .if_icmp .ge 7, 3) := by decide +kernel
theorem i112_5 : zfetch 112 5 = some (8, .iload_n 1, 1) := by decide +kernel
theorem i112_6 : zfetch 112 6 = some (8, .goto 13, 3) := by decide +kernel
theorem i112_9 : zfetch 112 9 = some (8, .iload_n 0, 1) := by decide +kernel
theorem i112_10 : zfetch 112 10 = some (8, .iload_n 2, 1) := by decide +kernel
theorem i112_11 : zfetch 112 11 = some (8, .if_icmp .le 7, 3) := by decide +kernel
theorem i112_14 : zfetch 112 14 = some (8, .iload_n 2, 1) := by decide +kernel
theorem i112_15 : zfetch 112 15 = some (8, .goto 4, 3) := by decide +kernel
theorem i112_18 : zfetch 112 18 = some (8, .iload_n 0, 1) := by decide +kernel
theorem i112_19 : zfetch 112 19 = some (8, .ireturn, 1) := by decide +kernel
theorem i113_0 : zfetch 113 0 = some (8, .iconst 0, 1) := by decide +kernel
theorem i113_1 : zfetch 113 1 = some (8, .istore_n 2, 1) := by decide +kernel
theorem i113_2 : zfetch 113 2 = some (8, .iload_n 2, 1) := by decide +kernel
theorem i113_3 : zfetch 113 3 = some (8, .sipush 394, 3) := by decide +kernel
theorem i113_6 : zfetch 113 6 = some (8, .if_icmp .ge 15, 3) := by decide +kernel
theorem i113_9 : zfetch 113 9 = some (8, .aload_n 1, 1) := by decide +kernel
theorem i113_10 : zfetch 113 10 = some (8, .iload_n 2, 1) := by decide +kernel
theorem i113_11 : zfetch 113 11 = some (8, .aload_n 0, 1) := by decide +kernel
theorem i113_12 : zfetch 113 12 = some (8, .iload_n 2, 1) := by decide +kernel
theorem i113_13 : zfetch 113 13 = some (8, .iaload, 1) := by decide +kernel
theorem i113_14 : zfetch 113 14 = some (8, .iastore, 1) := by decide +kernel
theorem i113_15 : zfetch 113 15 = some (8, .iinc 2 1, 3) := by decide +kernel
theorem i113_18 : zfetch 113 18 = some (8, .goto (-16), 3) := by decide +kernel
theorem i113_21 : zfetch 113 21 = some (8, .return_, 1) := by decide +kernel
theorem i114_0 : zfetch 114 0 = some (8, .iconst 0, 1) := by decide +kernel
theorem i114_1 : zfetch 114 1 = some (8, .istore_n 1, 1) := by decide +kernel
theorem i114_2 : zfetch 114 2 = some (8, .iload_n 1, 1) := by decide +kernel
theorem i114_3 : zfetch 114 3 = some (8, .bipush 60, 2) := by decide +kernel
theorem i114_5 : zfetch 114 5 = some (8, .if_icmp .ge 21, 3) := by decide +kernel
theorem i114_8 : zfetch 114 8 = some (8, .aload_n 0, 1) := by decide +kernel
theorem i114_9 : zfetch 114 9 = some (8, .getfield 16, 3) := by decide +kernel
theorem i114_12 : zfetch 114 12 = some (8, .iload_n 1, 1) := by decide +kernel
theorem i114_13 : zfetch 114 13 = some (8, .aload_n 0, 1) := by decide +kernel
theorem i114_14 : zfetch 114 14 = some (8, .getfield 7, 3) := by decide +kernel
theorem i114_17 : zfetch 114 17 = some (8, .iload_n 1, 1) := by decide +kernel
theorem i114_18 : zfetch 114 18 = some (8, .iaload, 1) := by decide +kernel
theorem i114_19 : zfetch 114 19 = some (8, .iastore, 1) := by decide +kernel
theorem i114_20 : zfetch 114 20 = some (8, .iinc 1 1, 3) := by decide +kernel
theorem i114_23 : zfetch 114 23 = some (8, .goto (-21), 3) := by decide +kernel
theorem i114_26 : zfetch 114 26 = some (8, .return_, 1) := by decide +kernel
theorem i115_0 : zfetch 115 0 = some (8, .iconst 0, 1) := by decide +kernel
theorem i115_1 : zfetch 115 1 = some (8, .istore_n 1, 1) := by decide +kernel
theorem i115_2 : zfetch 115 2 = some (8, .iload_n 1, 1) := by decide +kernel
theorem i115_3 : zfetch 115 3 = some (8, .bipush 60, 2) := by decide +kernel
theorem i115_5 : zfetch 115 5 = some (8, .if_icmp .ge 21, 3) := by decide +kernel
theorem i115_8 : zfetch 115 8 = some (8, .aload_n 0, 1) := by decide +kernel
theorem i115_9 : zfetch 115 9 = some (8, .getfield 7, 3) := by decide +kernel
theorem i115_12 : zfetch 115 12 = some (8, .iload_n 1, 1) := by decide +kernel
theorem i115_13 : zfetch 115 13 = some (8, .aload_n 0, 1) := by decide +kernel
theorem i115_14 : zfetch 115 14 = some (8, .getfield 16, 3) := by decide +kernel
theorem i115_17 : zfetch 115 17 = some (8, .iload_n 1, 1) := by decide +kernel
theorem i115_18 : zfetch 115 18 = some (8, .iaload, 1) := by decide +kernel
theorem i115_19 : zfetch 115 19 = some (8, .iastore, 1) := by decide +kernel
theorem i115_20 : zfetch 115 20 = some (8, .iinc 1 1, 3) := by decide +kernel
theorem i115_23 : zfetch 115 23 = some (8, .goto (-21), 3) := by decide +kernel
theorem i115_26 : zfetch 115 26 = some (8, .return_, 1) := by decide +kernel
theorem i116_0 : zfetch 116 0 = some (8, .iload_n 1, 1) := by decide +kernel
theorem i116_1 : zfetch 116 1 = some (8, .iconst 0, 1) := by decide +kernel
theorem i116_2 : zfetch 116 2 = some (8, .aload_n 0, 1) := by decide +kernel
theorem i116_3 : zfetch 116 3 = some (8, .getfield 7, 3) := by decide +kernel
theorem i116_6 : zfetch 116 6 = some (8, .iconst 4, 1) := by decide +kernel
theorem i116_7 : zfetch 116 7 = some (8, .iaload, 1) := by decide +kernel
theorem i116_8 : zfetch 116 8 = some (8, .iconst 1, 1) := by decide +kernel
theorem i116_9 : zfetch 116 9 = some (8, .isub, 1) := by decide +kernel
theorem i116_10 : zfetch 116 10 = some (8, .invokestatic 50, 3) := by decide +kernel
theorem i116_13 : zfetch 116 13 = some (8, .ireturn, 1) := by decide +kernel
theorem i117_0 : zfetch 117 0 = some (8, .iload_n 0, 1) := by decide +kernel
theorem i117_1 : zfetch 117 1 = some (8, .iconst 0, 1) := by decide +kernel
theorem i117_2 : zfetch 117 2 = some (8, .bipush 63, 2) := by decide +kernel
theorem i117_4 : zfetch 117 4 = some (8, .invokestatic 50, 3) := by decide +kernel
theorem i117_7 : zfetch 117 7 = some (8, .ireturn, 1) := by decide +kernel
theorem i118_0 : zfetch 118 0 = some (8, .aload_n 0, 1) := by decide +kernel
theorem i118_1 : zfetch 118 1 = some (8, .getfield 7, 3) := by decide +kernel
theorem i118_4 : zfetch 118 4 = some (8, .bipush 12, 2) := by decide +kernel
theorem i118_6 : zfetch 118 6 = some (8, .bipush 6, 2) := by decide +kernel
theorem i118_8 : zfetch 118 8 = some (8, .iload_n 1, 1) := by decide +kernel
theorem i118_9 : zfetch 118 9 = some (8, .imul, 1) := by decide +kernel
theorem i118_10 : zfetch 118 10 = some (8, .iadd, 1) := by decide +kernel
theorem i118_11 : zfetch 118 11 = some (8, .iload_n 2, 1) := by decide +kernel
theorem i118_12 : zfetch 118 12 = some (8, .iadd, 1) := by decide +kernel
theorem i118_13 : zfetch 118 13 = some (8, .iaload, 1) := by decide +kernel
theorem i118_14 : zfetch 118 14 = some (8, .ireturn, 1) := by decide +kernel
theorem i119_0 : zfetch 119 0 = some (8, .aload_n 0, 1) := by decide +kernel
theorem i119_1 : zfetch 119 1 = some (8, .getfield 7, 3) := by decide +kernel
theorem i119_4 : zfetch 119 4 = some (8, .bipush 12, 2) := by decide +kernel
theorem i119_6 : zfetch 119 6 = some (8, .bipush 6, 2) := by decide +kernel
theorem i119_8 : zfetch 119 8 = some (8, .iload_n 1, 1) := by decide +kernel
theorem i119_9 : zfetch 119 9 = some (8, .imul, 1) := by decide +kernel
theorem i119_10 : zfetch 119 10 = some (8, .iadd, 1) := by decide +kernel
theorem i119_11 : zfetch 119 11 = some (8, .iload_n 2, 1) := by decide +kernel
theorem i119_12 : zfetch 119 12 = some (8, .iadd, 1) := by decide +kernel
theorem i119_13 : zfetch 119 13 = some (8, .iload_n 3, 1) := by decide +kernel
theorem i119_14 : zfetch 119 14 = some (8, .iastore, 1) := by decide +kernel
theorem i119_15 : zfetch 119 15 = some (8, .return_, 1) := by decide +kernel
theorem i120_0 : zfetch 120 0 = some (8, .aload_n 0, 1) := by decide +kernel
theorem i120_1 : zfetch 120 1 = some (8, .getfield 7, 3) := by decide +kernel
theorem i120_4 : zfetch 120 4 = some (8, .iload_n 1, 1) := by decide +kernel
theorem i120_5 : zfetch 120 5 = some (8, .iaload, 1) := by decide +kernel
theorem i120_6 : zfetch 120 6 = some (8, .istore_n 3, 1) := by decide +kernel
theorem i120_7 : zfetch 120 7 = some (8, .aload_n 0, 1) := by decide +kernel
theorem i120_8 : zfetch 120 8 = some (8, .getfield 7, 3) := by decide +kernel
theorem i120_11 : zfetch 120 11 = some (8, .iload_n 1, 1) := by decide +kernel
theorem i120_12 : zfetch 120 12 = some (8, .iload_n 2, 1) := by decide +kernel
theorem i120_13 : zfetch 120 13 = some (8, .iastore, 1) := by decide +kernel
theorem i120_14 : zfetch 120 14 = some (8, .iload_n 3, 1) := by decide +kernel
theorem i120_15 : zfetch 120 15 = some (8, .ireturn, 1) := by decide +kernel
theorem i121_0 : zfetch 121 0 = some (8, .aload_n 0, 1) := by decide +kernel
theorem i121_1 : zfetch 121 1 = some (8, .iload_n 1, 1) := by decide +kernel
theorem i121_2 : zfetch 121 2 = some (8, .iconst 2, 1) := by decide +kernel
theorem i121_3 : zfetch 121 3 = some (8, .invokevirtual 54, 3) := by decide +kernel
theorem i121_6 : zfetch 121 6 = some (8, .ifCond .lt 7, 3) := by decide +kernel
theorem i121_9 : zfetch 121 9 = some (8, .iconst 1, 1) := by decide +kernel
theorem i121_10 : zfetch 121 10 = some (8, .goto 4, 3) := by decide +kernel
theorem i121_13 : zfetch 121 13 = some (8, .iconst 0, 1) := by decide +kernel
theorem i121_14 : zfetch 121 14 = some (8, .ireturn, 1) := by decide +kernel
theorem i122_0 : zfetch 122 0 = some (8, .iload_n 3, 1) := by decide +kernel
theorem i122_1 : zfetch 122 1 = some (8, .iconst 1, 1) := by decide +kernel
theorem i122_2 : zfetch 122 2 = some (8, .bipush 8, 2) := by decide +kernel
theorem i122_4 : zfetch 122 4 = some (8, .invokestatic 50, 3) := by decide +kernel
theorem i122_7 : zfetch 122 7 = some (8, .ifCond .ne 9, 3) := by decide +kernel
theorem i122_10 : zfetch 122 10 = some (8, .aload_n 0, 1) := by decide +kernel
theorem i122_11 : zfetch 122 11 = some (8, .iconst 1, 1) := by decide +kernel
theorem i122_12 : zfetch 122 12 = some (8, .invokevirtual 58, 3) := by decide +kernel
theorem i122_15 : zfetch 122 15 = some (8, .ireturn, 1) := by decide +kernel
theorem i122_16 : zfetch 122 16 = some (8, .aload_n 0, 1) := by decide +kernel
theorem i122_17 : zfetch 122 17 = some (8, .getfield 7, 3) := by decide +kernel
theorem i122_20 : zfetch 122 20 = some (8, .iconst 2, 1) := by decide +kernel
theorem i122_21 : zfetch 122 21 = some (8, .iaload, 1) := by decide +kernel
theorem i122_22 : zfetch 122 22 = some (8, .iload_n 3, 1) := by decide +kernel
theorem i122_23 : zfetch 122 23 = some (8, .iadd, 1) := by decide +kernel
theorem i122_24 : zfetch 122 24 = some (8, .bipush 60, 2) := by decide +kernel
theorem i122_26 : zfetch 122 26 = some (8, .if_icmp .le 9, 3) := by decide +kernel
theorem i122_29 : zfetch 122 29 = some (8, .aload_n 0, 1) := by decide +kernel
theorem i122_30 : zfetch 122 30 = some (8, .iconst 4, 1) := by decide +kernel
theorem i122_31 : zfetch 122 31 = some (8, .invokevirtual 58, 3) := by decide +kernel
theorem i122_34 : zfetch 122 34 = some (8, .ireturn, 1) := by decide +kernel
theorem i122_35 : zfetch 122 35 = some (8, .iconst 0, 1) := by decide +kernel
theorem i122_36 : zfetch 122 36 = some (8, .istore 4, 2) := by decide +kernel
theorem i122_38 : zfetch 122 38 = some (8, .iload 4, 2) := by decide +kernel
theorem i122_40 : zfetch 122 40 = some (8, .iload_n 3, 1) := by decide +kernel
theorem i122_41 : zfetch 122 41 = some (8, .if_icmp .ge 46, 3) := by decide +kernel
theorem i122_44 : zfetch 122 44 = some (8, .aload_n 0, 1) := by decide +kernel
theorem i122_45 : zfetch 122 45 = some (8, .getfield 7, 3) := by decide +kernel
theorem i122_48 : zfetch 122 48 = some (8, .sipush 310, 3) := by decide +kernel
theorem i122_51 : zfetch 122 51 = some (8, .aload_n 0, 1) := by decide +kernel
theorem i122_52 : zfetch 122 52 = some (8, .getfield 7, 3) := by decide +kernel
theorem i122_55 : zfetch 122 55 = some (8, .iconst 2, 1) := by decide +kernel
theorem i122_56 : zfetch 122 56 = some (8, .iaload, 1) := by decide +kernel
theorem i122_57 : zfetch 122 57 = some (8, .iadd, 1) := by decide +kernel
theorem i122_58 : zfetch 122 58 = some (8, .lload_n 1, 1) := by decide +kernel
theorem i122_59 : zfetch 122 59 = some (8, .bipush 8, 2) := by decide +kernel
theorem i122_61 : zfetch 122 61 = some (8, .iload 4, 2) := by decide +kernel
theorem i122_63 : zfetch 122 63 = some (8, .imul, 1) := by decide +kernel
theorem i122_64 : zfetch 122 64 = some (8, .lshr, 1) := by decide +kernel
theorem i122_65 : zfetch 122 65 = some (8, .ldc2_w 62, 3) := by decide +kernel
theorem i122_68 : zfetch 122 68 = some (8, .land, 1) := by decide +kernel
theorem i122_69 : zfetch 122 69 = some (8, .l2i, 1) := by decide +kernel
theorem i122_70 : zfetch 122 70 = some (8, .iastore, 1) := by decide +kernel
theorem i122_71 : zfetch 122 71 = some (8, .aload_n 0, 1) := by decide +kernel
theorem i122_72 : zfetch 122 72 = some (8, .getfield 7, 3) := by decide +kernel
theorem i122_75 : zfetch 122 75 = some (8, .iconst 2, 1) := by decide +kernel
theorem i122_76 : zfetch 122 76 = some (8, .dup2, 1) := by decide +kernel
theorem i122_77 : zfetch 122 77 = some (8, .iaload, 1) := by decide +kernel
theorem i122_78 : zfetch 122 78 = some (8, .iconst 1, 1) := by decide +kernel
theorem i122_79 : zfetch 122 79 = some (8, .iadd, 1) := by decide +kernel
theorem i122_80 : zfetch 122 80 = some (8, .iastore, 1) := by decide +kernel
theorem i122_81 : zfetch 122 81 = some (8, .iinc 4 1, 3) := by decide +kernel
theorem i122_84 : zfetch 122 84 = some (8, .goto (-46), 3) := by decide +kernel
theorem i122_87 : zfetch 122 87 = some (8, .aload_n 0, 1) := by decide +kernel
theorem i122_88 : zfetch 122 88 = some (8, .getfield 7, 3) := by decide +kernel
theorem i122_91 : zfetch 122 91 = some (8, .iconst 2, 1) := by decide +kernel
theorem i122_92 : zfetch 122 92 = some (8, .iaload, 1) := by decide +kernel
theorem i122_93 : zfetch 122 93 = some (8, .ireturn, 1) := by decide +kernel
theorem i123_0 : zfetch 123 0 = some (8, .aload_n 0, 1) := by decide +kernel
theorem i123_1 : zfetch 123 1 = some (8, .getfield 64, 3) := by decide +kernel
theorem i123_4 : zfetch 123 4 = some (8, .aload_n 0, 1) := by decide +kernel
theorem i123_5 : zfetch 123 5 = some (8, .getfield 7, 3) := by decide +kernel
theorem i123_8 : zfetch 123 8 = some (8, .iconst 2, 1) := by decide +kernel
theorem i123_9 : zfetch 123 9 = some (8, .iaload, 1) := by decide +kernel
theorem i123_10 : zfetch 123 10 = some (8, .if_icmp .ge 19, 3) := by decide +kernel
theorem i123_13 : zfetch 123 13 = some (8, .aload_n 0, 1) := by decide +kernel
theorem i123_14 : zfetch 123 14 = some (8, .getfield 7, 3) := by decide +kernel
theorem i123_17 : zfetch 123 17 = some (8, .sipush 310, 3) := by decide +kernel
theorem i123_20 : zfetch 123 20 = some (8, .aload_n 0, 1) := by decide +kernel
theorem i123_21 : zfetch 123 21 = some (8, .getfield 64, 3) := by decide +kernel
theorem i123_24 : zfetch 123 24 = some (8, .iadd, 1) := by decide +kernel
theorem i123_25 : zfetch 123 25 = some (8, .iaload, 1) := by decide +kernel
theorem i123_26 : zfetch 123 26 = some (8, .goto 4, 3) := by decide +kernel
theorem i123_29 : zfetch 123 29 = some (8, .iconst (-1), 1) := by decide +kernel
theorem i123_30 : zfetch 123 30 = some (8, .ireturn, 1) := by decide +kernel
theorem i124_0 : zfetch 124 0 = some (8, .iload_n 1, 1) := by decide +kernel
theorem i124_1 : zfetch 124 1 = some (8, .bipush 115, 2) := by decide +kernel
theorem i124_3 : zfetch 124 3 = some (8, .if_icmp .eq 27, 3) := by decide +kernel
theorem i124_6 : zfetch 124 6 = some (8, .iload_n 1, 1) := by decide +kernel
theorem i124_7 : zfetch 124 7 = some (8, .bipush 100, 2) := by decide +kernel
theorem i124_9 : zfetch 124 9 = some (8, .if_icmp .eq 21, 3) := by decide +kernel
theorem i124_12 : zfetch 124 12 = some (8, .iload_n 1, 1) := by decide +kernel
theorem i124_13 : zfetch 124 13 = some (8, .aload_n 0, 1) := by decide +kernel
theorem i124_14 : zfetch 124 14 = some (8, .getfield 68, 3) := by decide +kernel
theorem i124_17 : zfetch 124 17 = some (8, .ifCond .ne 8, 3) := by decide +kernel
theorem i124_20 : zfetch 124 20 = some (8, .bipush 121, 2) := by decide +kernel
theorem i124_22 : zfetch 124 22 = some (8, .goto 5, 3) := by decide +kernel
theorem i124_25 : zfetch 124 25 = some (8, .bipush 111, 2) := by decide +kernel
theorem i124_27 : zfetch 124 27 = some (8, .if_icmp .ne 7, 3) := by decide +kernel
theorem i124_30 : zfetch 124 30 = some (8, .iconst 1, 1) := by decide +kernel
theorem i124_31 : zfetch 124 31 = some (8, .goto 4, 3) := by decide +kernel
theorem i124_34 : zfetch 124 34 = some (8, .iconst 0, 1) := by decide +kernel
theorem i124_35 : zfetch 124 35 = some (8, .ireturn, 1) := by decide +kernel
theorem i125_0 : zfetch 125 0 = some (8, .aload_n 0, 1) := by decide +kernel
theorem i125_1 : zfetch 125 1 = some (8, .getfield 25, 3) := by decide +kernel
theorem i125_4 : zfetch 125 4 = some (8, .iconst 2, 1) := by decide +kernel
theorem i125_5 : zfetch 125 5 = some (8, .aload_n 0, 1) := by decide +kernel
theorem i125_6 : zfetch 125 6 = some (8, .getfield 71, 3) := by decide +kernel
theorem i125_9 : zfetch 125 9 = some (8, .imul, 1) := by decide +kernel
theorem i125_10 : zfetch 125 10 = some (8, .iload_n 1, 1) := by decide +kernel
theorem i125_11 : zfetch 125 11 = some (8, .iastore, 1) := by decide +kernel
theorem i125_12 : zfetch 125 12 = some (8, .aload_n 0, 1) := by decide +kernel
theorem i125_13 : zfetch 125 13 = some (8, .getfield 25, 3) := by decide +kernel
theorem i125_16 : zfetch 125 16 = some (8, .iconst 2, 1) := by decide +kernel
theorem i125_17 : zfetch 125 17 = some (8, .aload_n 0, 1) := by decide +kernel
theorem i125_18 : zfetch 125 18 = some (8, .getfield 71, 3) := by decide +kernel
theorem i125_21 : zfetch 125 21 = some (8, .imul, 1) := by decide +kernel
theorem i125_22 : zfetch 125 22 = some (8, .iconst 1, 1) := by decide +kernel
theorem i125_23 : zfetch 125 23 = some (8, .iadd, 1) := by decide +kernel
theorem i125_24 : zfetch 125 24 = some (8, .iload_n 2, 1) := by decide +kernel
theorem i125_25 : zfetch 125 25 = some (8, .iastore, 1) := by decide +kernel
theorem i125_26 : zfetch 125 26 = some (8, .aload_n 0, 1) := by decide +kernel
theorem i125_27 : zfetch 125 27 = some (8, .dup, 1) := by decide +kernel
theorem i125_28 : zfetch 125 28 = some (8, .getfield 71, 3) := by decide +kernel
theorem i125_31 : zfetch 125 31 = some (8, .iconst 1, 1) := by decide +kernel
theorem i125_32 : zfetch 125 32 = some (8, .iadd, 1) := by decide +kernel
theorem i125_33 : zfetch 125 33 = some (8, .putfield 71, 3) := by decide +kernel
theorem i125_36 : zfetch 125 36 = some (8, .return_, 1) := by decide +kernel
theorem i126_0 : zfetch 126 0 = some (8, .aload_n 0, 1) := by decide +kernel
theorem i126_1 : zfetch 126 1 = some (8, .invokevirtual 74, 3) := by decide +kernel
theorem i126_4 : zfetch 126 4 = some (8, .ifCond .ne 5, 3) := by decide +kernel
theorem i126_7 : zfetch 126 7 = some (8, .iconst 0, 1) := by decide +kernel
theorem i126_8 : zfetch 126 8 = some (8, .ireturn, 1) := by decide +kernel
theorem i126_9 : zfetch 126 9 = some (8, .aload_n 0, 1) := by decide +kernel
theorem i126_10 : zfetch 126 10 = some (8, .invokevirtual 78, 3) := by decide +kernel
theorem i126_13 : zfetch 126 13 = some (8, .bipush 124, 2) := by decide +kernel
theorem i126_15 : zfetch 126 15 = some (8, .if_icmp .ne 32, 3) := by decide +kernel
theorem i126_18 : zfetch 126 18 = some (8, .aload_n 0, 1) := by decide +kernel
theorem i126_19 : zfetch 126 19 = some (8, .dup, 1) := by decide +kernel
theorem i126_20 : zfetch 126 20 = some (8, .getfield 64, 3) := by decide +kernel
theorem i126_23 : zfetch 126 23 = some (8, .iconst 1, 1) := by decide +kernel
theorem i126_24 : zfetch 126 24 = some (8, .iadd, 1) := by decide +kernel
theorem i126_25 : zfetch 126 25 = some (8, .putfield 64, 3) := by decide +kernel
theorem i126_28 : zfetch 126 28 = some (8, .aload_n 0, 1) := by decide +kernel
theorem i126_29 : zfetch 126 29 = some (8, .invokevirtual 74, 3) := by decide +kernel
theorem i126_32 : zfetch 126 32 = some (8, .ifCond .ne 5, 3) := by decide +kernel
theorem i126_35 : zfetch 126 35 = some (8, .iconst 0, 1) := by decide +kernel
theorem i126_36 : zfetch 126 36 = some (8, .ireturn, 1) := by decide +kernel
theorem i126_37 : zfetch 126 37 = some (8, .aload_n 0, 1) := by decide +kernel
theorem i126_38 : zfetch 126 38 = some (8, .iconst 3, 1) := by decide +kernel
theorem i126_39 : zfetch 126 39 = some (8, .bipush 124, 2) := by decide +kernel
theorem i126_41 : zfetch 126 41 = some (8, .invokevirtual 82, 3) := by decide +kernel
theorem i126_44 : zfetch 126 44 = some (8, .goto (-35), 3) := by decide +kernel
theorem i126_47 : zfetch 126 47 = some (8, .iconst 1, 1) := by decide +kernel
theorem i126_48 : zfetch 126 48 = some (8, .ireturn, 1) := by decide +kernel
theorem i127_0 : zfetch 127 0 = some (8, .aload_n 0, 1) := by decide +kernel
theorem i127_1 : zfetch 127 1 = some (8, .invokevirtual 86, 3) := by decide +kernel
theorem i127_4 : zfetch 127 4 = some (8, .ifCond .ne 5, 3) := by decide +kernel
theorem i127_7 : zfetch 127 7 = some (8, .iconst 0, 1) := by decide +kernel
theorem i127_8 : zfetch 127 8 = some (8, .ireturn, 1) := by decide +kernel
theorem i127_9 : zfetch 127 9 = some (8, .aload_n 0, 1) := by decide +kernel
theorem i127_10 : zfetch 127 10 = some (8, .invokevirtual 78, 3) := by decide +kernel
theorem i127_13 : zfetch 127 13 = some (8, .bipush 38, 2) := by decide +kernel
theorem i127_15 : zfetch 127 15 = some (8, .if_icmp .ne 32, 3) := by decide +kernel
theorem i127_18 : zfetch 127 18 = some (8, .aload_n 0, 1) := by decide +kernel
theorem i127_19 : zfetch 127 19 = some (8, .dup, 1) := by decide +kernel
theorem i127_20 : zfetch 127 20 = some (8, .getfield 64, 3) := by decide +kernel
theorem i127_23 : zfetch 127 23 = some (8, .iconst 1, 1) := by decide +kernel
theorem i127_24 : zfetch 127 24 = some (8, .iadd, 1) := by decide +kernel
theorem i127_25 : zfetch 127 25 = some (8, .putfield 64, 3) := by decide +kernel
theorem i127_28 : zfetch 127 28 = some (8, .aload_n 0, 1) := by decide +kernel
theorem i127_29 : zfetch 127 29 = some (8, .invokevirtual 86, 3) := by decide +kernel
theorem i127_32 : zfetch 127 32 = some (8, .ifCond .ne 5, 3) := by decide +kernel
theorem i127_35 : zfetch 127 35 = some (8, .iconst 0, 1) := by decide +kernel
theorem i127_36 : zfetch 127 36 = some (8, .ireturn, 1) := by decide +kernel
theorem i127_37 : zfetch 127 37 = some (8, .aload_n 0, 1) := by decide +kernel
theorem i127_38 : zfetch 127 38 = some (8, .iconst 3, 1) := by decide +kernel
theorem i127_39 : zfetch 127 39 = some (8, .bipush 38, 2) := by decide +kernel
theorem i127_41 : zfetch 127 41 = some (8, .invokevirtual 82, 3) := by decide +kernel
theorem i127_44 : zfetch 127 44 = some (8, .goto (-35), 3) := by decide +kernel
theorem i127_47 : zfetch 127 47 = some (8, .iconst 1, 1) := by decide +kernel
theorem i127_48 : zfetch 127 48 = some (8, .ireturn, 1) := by decide +kernel
theorem i128_0 : zfetch 128 0 = some (8, .aload_n 0, 1) := by decide +kernel
theorem i128_1 : zfetch 128 1 = some (8, .invokevirtual 89, 3) := by decide +kernel
theorem i128_4 : zfetch 128 4 = some (8, .ifCond .ne 5, 3) := by decide +kernel
theorem i128_7 : zfetch 128 7 = some (8, .iconst 0, 1) := by decide +kernel
theorem i128_8 : zfetch 128 8 = some (8, .ireturn, 1) := by decide +kernel
theorem i128_9 : zfetch 128 9 = some (8, .aload_n 0, 1) := by decide +kernel
theorem i128_10 : zfetch 128 10 = some (8, .invokevirtual 78, 3) := by decide +kernel
theorem i128_13 : zfetch 128 13 = some (8, .istore_n 1, 1) := by decide +kernel
theorem i128_14 : zfetch 128 14 = some (8, .iload_n 1, 1) := by decide +kernel
theorem i128_15 : zfetch 128 15 = some (8, .bipush 60, 2) := by decide +kernel
theorem i128_17 : zfetch 128 17 = some (8, .if_icmp .eq 17, 3) := by decide +kernel
theorem i128_20 : zfetch 128 20 = some (8, .iload_n 1, 1) := by decide +kernel
theorem i128_21 : zfetch 128 21 = some (8, .bipush 61, 2) := by decide +kernel
theorem i128_23 : zfetch 128 23 = some (8, .if_icmp .eq 11, 3) := by decide +kernel
theorem i128_26 : zfetch 128 26 = some (8, .iload_n 1, 1) := by decide +kernel
theorem i128_27 : zfetch 128 27 = some (8, .bipush 62, 2) := by decide +kernel
theorem i128_29 : zfetch 128 29 = some (8, .if_icmp .eq 5, 3) := by decide +kernel
theorem i128_32 : zfetch 128 32 = some (8, .iconst 1, 1) := by decide +kernel
theorem i128_33 : zfetch 128 33 = some (8, .ireturn, 1) := by decide +kernel
theorem i128_34 : zfetch 128 34 = some (8, .aload_n 0, 1) := by decide +kernel
theorem i128_35 : zfetch 128 35 = some (8, .dup, 1) := by decide +kernel
theorem i128_36 : zfetch 128 36 = some (8, .getfield 64, 3) := by decide +kernel
theorem i128_39 : zfetch 128 39 = some (8, .iconst 1, 1) := by decide +kernel
theorem i128_40 : zfetch 128 40 = some (8, .iadd, 1) := by decide +kernel
theorem i128_41 : zfetch 128 41 = some (8, .putfield 64, 3) := by decide +kernel
theorem i128_44 : zfetch 128 44 = some (8, .aload_n 0, 1) := by decide +kernel
theorem i128_45 : zfetch 128 45 = some (8, .invokevirtual 89, 3) := by decide +kernel
theorem i128_48 : zfetch 128 48 = some (8, .ifCond .ne 5, 3) := by decide +kernel
theorem i128_51 : zfetch 128 51 = some (8, .iconst 0, 1) := by decide +kernel
theorem i128_52 : zfetch 128 52 = some (8, .ireturn, 1) := by decide +kernel
theorem i128_53 : zfetch 128 53 = some (8, .aload_n 0, 1) := by decide +kernel
theorem i128_54 : zfetch 128 54 = some (8, .iconst 3, 1) := by decide +kernel
theorem i128_55 : zfetch 128 55 = some (8, .iload_n 1, 1) := by decide +kernel
theorem i128_56 : zfetch 128 56 = some (8, .invokevirtual 82, 3) := by decide +kernel
theorem i128_59 : zfetch 128 59 = some (8, .iconst 1, 1) := by decide +kernel
theorem i128_60 : zfetch 128 60 = some (8, .ireturn, 1) := by decide +kernel
theorem i129_0 : zfetch 129 0 = some (8, .aload_n 0, 1) := by decide +kernel
theorem i129_1 : zfetch 129 1 = some (8, .invokevirtual 92, 3) := by decide +kernel
theorem i129_4 : zfetch 129 4 = some (8, .ifCond .ne 5, 3) := by decide +kernel
theorem i129_7 : zfetch 129 7 = some (8, .iconst 0, 1) := by decide +kernel
theorem i129_8 : zfetch 129 8 = some (8, .ireturn, 1) := by decide +kernel
theorem i129_9 : zfetch 129 9 = some (8, .aload_n 0, 1) := by decide +kernel
theorem i129_10 : zfetch 129 10 = some (8, .invokevirtual 78, 3) := by decide +kernel
theorem i129_13 : zfetch 129 13 = some (8, .bipush 43, 2) := by decide +kernel
theorem i129_15 : zfetch 129 15 = some (8, .if_icmp .eq 12, 3) := by decide +kernel
theorem i129_18 : zfetch 129 18 = some (8, .aload_n 0, 1) := by decide +kernel
theorem i129_19 : zfetch 129 19 = some (8, .invokevirtual 78, 3) := by decide +kernel
theorem i129_22 : zfetch 129 22 = some (8, .bipush 45, 2) := by decide +kernel
theorem i129_24 : zfetch 129 24 = some (8, .if_icmp .ne 36, 3) := by decide +kernel
theorem i129_27 : zfetch 129 27 = some (8, .aload_n 0, 1) := by decide +kernel
theorem i129_28 : zfetch 129 28 = some (8, .invokevirtual 78, 3) := by decide +kernel
theorem i129_31 : zfetch 129 31 = some (8, .istore_n 1, 1) := by decide +kernel
theorem i129_32 : zfetch 129 32 = some (8, .aload_n 0, 1) := by decide +kernel
theorem i129_33 : zfetch 129 33 = some (8, .dup, 1) := by decide +kernel
theorem i129_34 : zfetch 129 34 = some (8, .getfield 64, 3) := by decide +kernel
theorem i129_37 : zfetch 129 37 = some (8, .iconst 1, 1) := by decide +kernel
theorem i129_38 : zfetch 129 38 = some (8, .iadd, 1) := by decide +kernel
theorem i129_39 : zfetch 129 39 = some (8, .putfield 64, 3) := by decide +kernel
theorem i129_42 : zfetch 129 42 = some (8, .aload_n 0, 1) := by decide +kernel
theorem i129_43 : zfetch 129 43 = some (8, .invokevirtual 92, 3) := by decide +kernel
theorem i129_46 : zfetch 129 46 = some (8, .ifCond .ne 5, 3) := by decide +kernel
theorem i129_49 : zfetch 129 49 = some (8, .iconst 0, 1) := by decide +kernel
theorem i129_50 : zfetch 129 50 = some (8, .ireturn, 1) := by decide +kernel
theorem i129_51 : zfetch 129 51 = some (8, .aload_n 0, 1) := by decide +kernel
theorem i129_52 : zfetch 129 52 = some (8, .iconst 3, 1) := by decide +kernel
theorem i129_53 : zfetch 129 53 = some (8, .iload_n 1, 1) := by decide +kernel
theorem i129_54 : zfetch 129 54 = some (8, .invokevirtual 82, 3) := by decide +kernel
theorem i129_57 : zfetch 129 57 = some (8, .goto (-48), 3) := by decide +kernel
theorem i129_60 : zfetch 129 60 = some (8, .iconst 1, 1) := by decide +kernel
theorem i129_61 : zfetch 129 61 = some (8, .ireturn, 1) := by decide +kernel
theorem i130_0 : zfetch 130 0 = some (8, .aload_n 0, 1) := by decide +kernel
theorem i130_1 : zfetch 130 1 = some (8, .invokevirtual 95, 3) := by decide +kernel
theorem i130_4 : zfetch 130 4 = some (8, .ifCond .ne 5, 3) := by decide +kernel
theorem i130_7 : zfetch 130 7 = some (8, .iconst 0, 1) := by decide +kernel
theorem i130_8 : zfetch 130 8 = some (8, .ireturn, 1) := by decide +kernel
theorem i130_9 : zfetch 130 9 = some (8, .aload_n 0, 1) := by decide +kernel
theorem i130_10 : zfetch 130 10 = some (8, .invokevirtual 78, 3) := by decide +kernel
theorem i130_13 : zfetch 130 13 = some (8, .bipush 42, 2) := by decide +kernel
theorem i130_15 : zfetch 130 15 = some (8, .if_icmp .eq 21, 3) := by decide +kernel
theorem i130_18 : zfetch 130 18 = some (8, .aload_n 0, 1) := by decide +kernel
theorem i130_19 : zfetch 130 19 = some (8, .invokevirtual 78, 3) := by decide +kernel
theorem i130_22 : zfetch 130 22 = some (8, .bipush 47, 2) := by decide +kernel
theorem i130_24 : zfetch 130 24 = some (8, .if_icmp .eq 12, 3) := by decide +kernel
theorem i130_27 : zfetch 130 27 = some (8, .aload_n 0, 1) := by decide +kernel
theorem i130_28 : zfetch 130 28 = some (8, .invokevirtual 78, 3) := by decide +kernel
theorem i130_31 : zfetch 130 31 = some (8, .bipush 37, 2) := by decide +kernel
theorem i130_33 : zfetch 130 33 = some (8, .if_icmp .ne 36, 3) := by decide +kernel
theorem i130_36 : zfetch 130 36 = some (8, .aload_n 0, 1) := by decide +kernel
theorem i130_37 : zfetch 130 37 = some (8, .invokevirtual 78, 3) := by decide +kernel
theorem i130_40 : zfetch 130 40 = some (8, .istore_n 1, 1) := by decide +kernel
theorem i130_41 : zfetch 130 41 = some (8, .aload_n 0, 1) := by decide +kernel
theorem i130_42 : zfetch 130 42 = some (8, .dup, 1) := by decide +kernel
theorem i130_43 : zfetch 130 43 = some (8, .getfield 64, 3) := by decide +kernel
theorem i130_46 : zfetch 130 46 = some (8, .iconst 1, 1) := by decide +kernel
theorem i130_47 : zfetch 130 47 = some (8, .iadd, 1) := by decide +kernel
theorem i130_48 : zfetch 130 48 = some (8, .putfield 64, 3) := by decide +kernel
theorem i130_51 : zfetch 130 51 = some (8, .aload_n 0, 1) := by decide +kernel
theorem i130_52 : zfetch 130 52 = some (8, .invokevirtual 95, 3) := by decide +kernel
theorem i130_55 : zfetch 130 55 = some (8, .ifCond .ne 5, 3) := by decide +kernel
theorem i130_58 : zfetch 130 58 = some (8, .iconst 0, 1) := by decide +kernel
theorem i130_59 : zfetch 130 59 = some (8, .ireturn, 1) := by decide +kernel
theorem i130_60 : zfetch 130 60 = some (8, .aload_n 0, 1) := by decide +kernel
theorem i130_61 : zfetch 130 61 = some (8, .iconst 3, 1) := by decide +kernel
theorem i130_62 : zfetch 130 62 = some (8, .iload_n 1, 1) := by decide +kernel
theorem i130_63 : zfetch 130 63 = some (8, .invokevirtual 82, 3) := by decide +kernel
theorem i130_66 : zfetch 130 66 = some (8, .goto (-57), 3) := by decide +kernel
theorem i130_69 : zfetch 130 69 = some (8, .iconst 1, 1) := by decide +kernel
theorem i130_70 : zfetch 130 70 = some (8, .ireturn, 1) := by decide +kernel
theorem i131_0 : zfetch 131 0 = some (8, .aload_n 0, 1) := by decide +kernel
theorem i131_1 : zfetch 131 1 = some (8, .getfield 98, 3) := by decide +kernel
theorem i131_4 : zfetch 131 4 = some (8, .iconst 5, 1) := by decide +kernel
theorem i131_5 : zfetch 131 5 = some (8, .if_icmp .ne 5, 3) := by decide +kernel
theorem i131_8 : zfetch 131 8 = some (8, .iconst 0, 1) := by decide +kernel
theorem i131_9 : zfetch 131 9 = some (8, .ireturn, 1) := by decide +kernel
theorem i131_10 : zfetch 131 10 = some (8, .aload_n 0, 1) := by decide +kernel
theorem i131_11 : zfetch 131 11 = some (8, .dup, 1) := by decide +kernel
theorem i131_12 : zfetch 131 12 = some (8, .getfield 98, 3) := by decide +kernel
theorem i131_15 : zfetch 131 15 = some (8, .iconst 1, 1) := by decide +kernel
theorem i131_16 : zfetch 131 16 = some (8, .iadd, 1) := by decide +kernel
theorem i131_17 : zfetch 131 17 = some (8, .putfield 98, 3) := by decide +kernel
theorem i131_20 : zfetch 131 20 = some (8, .aload_n 0, 1) := by decide +kernel
theorem i131_21 : zfetch 131 21 = some (8, .dup, 1) := by decide +kernel
theorem i131_22 : zfetch 131 22 = some (8, .getfield 64, 3) := by decide +kernel
theorem i131_25 : zfetch 131 25 = some (8, .iconst 1, 1) := by decide +kernel
theorem i131_26 : zfetch 131 26 = some (8, .iadd, 1) := by decide +kernel
theorem i131_27 : zfetch 131 27 = some (8, .putfield 64, 3) := by decide +kernel
theorem i131_30 : zfetch 131 30 = some (8, .iconst 1, 1) := by decide +kernel
theorem i131_31 : zfetch 131 31 = some (8, .ireturn, 1) := by decide +kernel
theorem i132_0 : zfetch 132 0 = some (8, .aload_n 0, 1) := by decide +kernel
theorem i132_1 : zfetch 132 1 = some (8, .invokevirtual 78, 3) := by decide +kernel
theorem i132_4 : zfetch 132 4 = some (8, .istore_n 1, 1) := by decide +kernel
theorem i132_5 : zfetch 132 5 = some (8, .aload_n 0, 1) := by decide +kernel
theorem i132_6 : zfetch 132 6 = some (8, .iload_n 1, 1) := by decide +kernel
theorem i132_7 : zfetch 132 7 = some (8, .invokevirtual 101, 3) := by decide +kernel
theorem i132_10 : zfetch 132 10 = some (8, .ifCond .eq 21, 3) := by decide +kernel
theorem i132_13 : zfetch 132 13 = some (8, .aload_n 0, 1) := by decide +kernel
theorem i132_14 : zfetch 132 14 = some (8, .dup, 1) := by decide +kernel
theorem i132_15 : zfetch 132 15 = some (8, .getfield 64, 3) := by decide +kernel
theorem i132_18 : zfetch 132 18 = some (8, .iconst 1, 1) := by decide +kernel
theorem i132_19 : zfetch 132 19 = some (8, .iadd, 1) := by decide +kernel
theorem i132_20 : zfetch 132 20 = some (8, .putfield 64, 3) := by decide +kernel
theorem i132_23 : zfetch 132 23 = some (8, .aload_n 0, 1) := by decide +kernel
theorem i132_24 : zfetch 132 24 = some (8, .iconst 1, 1) := by decide +kernel
theorem i132_25 : zfetch 132 25 = some (8, .iload_n 1, 1) := by decide +kernel
theorem i132_26 : zfetch 132 26 = some (8, .invokevirtual 82, 3) := by decide +kernel
theorem i132_29 : zfetch 132 29 = some (8, .iconst 1, 1) := by decide +kernel
theorem i132_30 : zfetch 132 30 = some (8, .ireturn, 1) := by decide +kernel
theorem i132_31 : zfetch 132 31 = some (8, .iload_n 1, 1) := by decide +kernel
theorem i132_32 : zfetch 132 32 = some (8, .bipush 48, 2) := by decide +kernel
theorem i132_34 : zfetch 132 34 = some (8, .bipush 57, 2) := by decide +kernel
theorem i132_36 : zfetch 132 36 = some (8, .invokestatic 50, 3) := by decide +kernel
theorem i132_39 : zfetch 132 39 = some (8, .ifCond .eq 63, 3) := by decide +kernel
theorem i132_42 : zfetch 132 42 = some (8, .iconst 0, 1) := by decide +kernel
theorem i132_43 : zfetch 132 43 = some (8, .istore_n 2, 1) := by decide +kernel
theorem i132_44 : zfetch 132 44 = some (8, .iconst 0, 1) := by decide +kernel
theorem i132_45 : zfetch 132 45 = some (8, .istore_n 3, 1) := by decide +kernel
theorem i132_46 : zfetch 132 46 = some (8, .iload_n 3, 1) := by decide +kernel
theorem i132_47 : zfetch 132 47 = some (8, .iconst 4, 1) := by decide +kernel
theorem i132_48 : zfetch 132 48 = some (8, .if_icmp .ge 46, 3) := by decide +kernel
theorem i132_51 : zfetch 132 51 = some (8, .aload_n 0, 1) := by decide +kernel
theorem i132_52 : zfetch 132 52 = some (8, .invokevirtual 78, 3) := by decide +kernel
theorem i132_55 : zfetch 132 55 = some (8, .bipush 48, 2) := by decide +kernel
theorem i132_57 : zfetch 132 57 = some (8, .bipush 57, 2) := by decide +kernel
theorem i132_59 : zfetch 132 59 = some (8, .invokestatic 50, 3) := by decide +kernel
theorem i132_62 : zfetch 132 62 = some (8, .ifCond .eq 32, 3) := by decide +kernel
theorem i132_65 : zfetch 132 65 = some (8, .bipush 10, 2) := by decide +kernel
theorem i132_67 : zfetch 132 67 = some (8, .iload_n 2, 1) := by decide +kernel
theorem i132_68 : zfetch 132 68 = some (8, .imul, 1) := by decide +kernel
theorem i132_69 : zfetch 132 69 = some (8, .aload_n 0, 1) := by decide +kernel
theorem i132_70 : zfetch 132 70 = some (8, .invokevirtual 78, 3) := by decide +kernel
theorem i132_73 : zfetch 132 73 = some (8, .iadd, 1) := by decide +kernel
theorem i132_74 : zfetch 132 74 = some (8, .bipush 48, 2) := by decide +kernel
theorem i132_76 : zfetch 132 76 = some (8, .isub, 1) := by decide +kernel
theorem i132_77 : zfetch 132 77 = some (8, .istore_n 2, 1) := by decide +kernel
theorem i132_78 : zfetch 132 78 = some (8, .aload_n 0, 1) := by decide +kernel
theorem i132_79 : zfetch 132 79 = some (8, .dup, 1) := by decide +kernel
theorem i132_80 : zfetch 132 80 = some (8, .getfield 64, 3) := by decide +kernel
theorem i132_83 : zfetch 132 83 = some (8, .iconst 1, 1) := by decide +kernel
theorem i132_84 : zfetch 132 84 = some (8, .iadd, 1) := by decide +kernel
theorem i132_85 : zfetch 132 85 = some (8, .putfield 64, 3) := by decide +kernel
theorem i132_88 : zfetch 132 88 = some (8, .iinc 3 1, 3) := by decide +kernel
theorem i132_91 : zfetch 132 91 = some (8, .goto (-45), 3) := by decide +kernel
theorem i132_94 : zfetch 132 94 = some (8, .aload_n 0, 1) := by decide +kernel
theorem i132_95 : zfetch 132 95 = some (8, .iconst 0, 1) := by decide +kernel
theorem i132_96 : zfetch 132 96 = some (8, .iload_n 2, 1) := by decide +kernel
theorem i132_97 : zfetch 132 97 = some (8, .invokevirtual 82, 3) := by decide +kernel
theorem i132_100 : zfetch 132 100 = some (8, .iconst 1, 1) := by decide +kernel
theorem i132_101 : zfetch 132 101 = some (8, .ireturn, 1) := by decide +kernel
theorem i132_102 : zfetch 132 102 = some (8, .iload_n 1, 1) := by decide +kernel
theorem i132_103 : zfetch 132 103 = some (8, .bipush 33, 2) := by decide +kernel
theorem i132_105 : zfetch 132 105 = some (8, .if_icmp .ne 37, 3) := by decide +kernel
theorem i132_108 : zfetch 132 108 = some (8, .aload_n 0, 1) := by decide +kernel
theorem i132_109 : zfetch 132 109 = some (8, .invokevirtual 105, 3) := by decide +kernel
theorem i132_112 : zfetch 132 112 = some (8, .ifCond .eq 10, 3) := by decide +kernel
theorem i132_115 : zfetch 132 115 = some (8, .aload_n 0, 1) := by decide +kernel
theorem i132_116 : zfetch 132 116 = some (8, .invokevirtual 95, 3) := by decide +kernel
theorem i132_119 : zfetch 132 119 = some (8, .ifCond .ne 5, 3) := by decide +kernel
theorem i132_122 : zfetch 132 122 = some (8, .iconst 0, 1) := by decide +kernel
theorem i132_123 : zfetch 132 123 = some (8, .ireturn, 1) := by decide +kernel
theorem i132_124 : zfetch 132 124 = some (8, .aload_n 0, 1) := by decide +kernel
theorem i132_125 : zfetch 132 125 = some (8, .dup, 1) := by decide +kernel
theorem i132_126 : zfetch 132 126 = some (8, .getfield 98, 3) := by decide +kernel
theorem i132_129 : zfetch 132 129 = some (8, .iconst 1, 1) := by decide +kernel
theorem i132_130 : zfetch 132 130 = some (8, .isub, 1) := by decide +kernel
theorem i132_131 : zfetch 132 131 = some (8, .putfield 98, 3) := by decide +kernel
theorem i132_134 : zfetch 132 134 = some (8, .aload_n 0, 1) := by decide +kernel
theorem i132_135 : zfetch 132 135 = some (8, .iconst 2, 1) := by decide +kernel
theorem i132_136 : zfetch 132 136 = some (8, .iconst 0, 1) := by decide +kernel
theorem i132_137 : zfetch 132 137 = some (8, .invokevirtual 82, 3) := by decide +kernel
theorem i132_140 : zfetch 132 140 = some (8, .iconst 1, 1) := by decide +kernel
theorem i132_141 : zfetch 132 141 = some (8, .ireturn, 1) := by decide +kernel
theorem i132_142 : zfetch 132 142 = some (8, .iload_n 1, 1) := by decide +kernel
theorem i132_143 : zfetch 132 143 = some (8, .bipush 40, 2) := by decide +kernel
theorem i132_145 : zfetch 132 145 = some (8, .if_icmp .ne 26, 3) := by decide +kernel
theorem i132_148 : zfetch 132 148 = some (8, .aload_n 0, 1) := by decide +kernel
theorem i132_149 : zfetch 132 149 = some (8, .invokevirtual 105, 3) := by decide +kernel
theorem i132_152 : zfetch 132 152 = some (8, .ifCond .eq 19, 3) := by decide +kernel
theorem i132_155 : zfetch 132 155 = some (8, .aload_n 0, 1) := by decide +kernel
theorem i132_156 : zfetch 132 156 = some (8, .invokevirtual 108, 3) := by decide +kernel
theorem i132_159 : zfetch 132 159 = some (8, .ifCond .eq 12, 3) := by decide +kernel
theorem i132_162 : zfetch 132 162 = some (8, .aload_n 0, 1) := by decide +kernel
theorem i132_163 : zfetch 132 163 = some (8, .invokevirtual 78, 3) := by decide +kernel
theorem i132_166 : zfetch 132 166 = some (8, .bipush 41, 2) := by decide +kernel
theorem i132_168 : zfetch 132 168 = some (8, .if_icmp .eq 5, 3) := by decide +kernel
theorem i132_171 : zfetch 132 171 = some (8, .iconst 0, 1) := by decide +kernel
theorem i132_172 : zfetch 132 172 = some (8, .ireturn, 1) := by decide +kernel
theorem i132_173 : zfetch 132 173 = some (8, .aload_n 0, 1) := by decide +kernel
theorem i132_174 : zfetch 132 174 = some (8, .dup, 1) := by decide +kernel
theorem i132_175 : zfetch 132 175 = some (8, .getfield 64, 3) := by decide +kernel
theorem i132_178 : zfetch 132 178 = some (8, .iconst 1, 1) := by decide +kernel
theorem i132_179 : zfetch 132 179 = some (8, .iadd, 1) := by decide +kernel
theorem i132_180 : zfetch 132 180 = some (8, .putfield 64, 3) := by decide +kernel
theorem i132_183 : zfetch 132 183 = some (8, .aload_n 0, 1) := by decide +kernel
theorem i132_184 : zfetch 132 184 = some (8, .dup, 1) := by decide +kernel
theorem i132_185 : zfetch 132 185 = some (8, .getfield 98, 3) := by decide +kernel
theorem i132_188 : zfetch 132 188 = some (8, .iconst 1, 1) := by decide +kernel
theorem i132_189 : zfetch 132 189 = some (8, .isub, 1) := by decide +kernel
theorem i132_190 : zfetch 132 190 = some (8, .putfield 98, 3) := by decide +kernel
theorem i132_193 : zfetch 132 193 = some (8, .iconst 1, 1) := by decide +kernel
theorem i132_194 : zfetch 132 194 = some (8, .ireturn, 1) := by decide +kernel
theorem i133_0 : zfetch 133 0 = some (8, .aload_n 0, 1) := by decide +kernel
theorem i133_1 : zfetch 133 1 = some (8, .getfield 7, 3) := by decide +kernel
theorem i133_4 : zfetch 133 4 = some (8, .bipush 60, 2) := by decide +kernel
theorem i133_6 : zfetch 133 6 = some (8, .bipush 125, 2) := by decide +kernel
theorem i133_8 : zfetch 133 8 = some (8, .iload_n 1, 1) := by decide +kernel
theorem i133_9 : zfetch 133 9 = some (8, .imul, 1) := by decide +kernel
theorem i133_10 : zfetch 133 10 = some (8, .iadd, 1) := by decide +kernel
theorem i133_11 : zfetch 133 11 = some (8, .iaload, 1) := by decide +kernel
theorem i133_12 : zfetch 133 12 = some (8, .ifCond .le 7, 3) := by decide +kernel
theorem i133_15 : zfetch 133 15 = some (8, .iconst 1, 1) := by decide +kernel
theorem i133_16 : zfetch 133 16 = some (8, .goto 4, 3) := by decide +kernel
theorem i133_19 : zfetch 133 19 = some (8, .iconst 0, 1) := by decide +kernel
theorem i133_20 : zfetch 133 20 = some (8, .ireturn, 1) := by decide +kernel
theorem i134_0 : zfetch 134 0 = some (8, .iload_n 1, 1) := by decide +kernel
theorem i134_1 : zfetch 134 1 = some (8, .iconst 0, 1) := by decide +kernel
theorem i134_2 : zfetch 134 2 = some (8, .iconst 1, 1) := by decide +kernel
theorem i134_3 : zfetch 134 3 = some (8, .invokestatic 50, 3) := by decide +kernel
theorem i134_6 : zfetch 134 6 = some (8, .ifCond .ne 9, 3) := by decide +kernel
theorem i134_9 : zfetch 134 9 = some (8, .aload_n 0, 1) := by decide +kernel
theorem i134_10 : zfetch 134 10 = some (8, .iconst 1, 1) := by decide +kernel
theorem i134_11 : zfetch 134 11 = some (8, .invokevirtual 58, 3) := by decide +kernel
theorem i134_14 : zfetch 134 14 = some (8, .ireturn, 1) := by decide +kernel
theorem i134_15 : zfetch 134 15 = some (8, .aload_n 0, 1) := by decide +kernel
theorem i134_16 : zfetch 134 16 = some (8, .iload_n 1, 1) := by decide +kernel
theorem i134_17 : zfetch 134 17 = some (8, .putfield 68, 3) := by decide +kernel
theorem i134_20 : zfetch 134 20 = some (8, .aload_n 0, 1) := by decide +kernel
theorem i134_21 : zfetch 134 21 = some (8, .iconst 0, 1) := by decide +kernel
theorem i134_22 : zfetch 134 22 = some (8, .putfield 64, 3) := by decide +kernel
theorem i134_25 : zfetch 134 25 = some (8, .aload_n 0, 1) := by decide +kernel
theorem i134_26 : zfetch 134 26 = some (8, .iconst 0, 1) := by decide +kernel
theorem i134_27 : zfetch 134 27 = some (8, .putfield 98, 3) := by decide +kernel
theorem i134_30 : zfetch 134 30 = some (8, .aload_n 0, 1) := by decide +kernel
theorem i134_31 : zfetch 134 31 = some (8, .iconst 0, 1) := by decide +kernel
theorem i134_32 : zfetch 134 32 = some (8, .putfield 71, 3) := by decide +kernel
theorem i134_35 : zfetch 134 35 = some (8, .aload_n 0, 1) := by decide +kernel
theorem i134_36 : zfetch 134 36 = some (8, .invokevirtual 108, 3) := by decide +kernel
theorem i134_39 : zfetch 134 39 = some (8, .ifCond .eq 20, 3) := by decide +kernel
theorem i134_42 : zfetch 134 42 = some (8, .aload_n 0, 1) := by decide +kernel
theorem i134_43 : zfetch 134 43 = some (8, .getfield 64, 3) := by decide +kernel
theorem i134_46 : zfetch 134 46 = some (8, .aload_n 0, 1) := by decide +kernel
theorem i134_47 : zfetch 134 47 = some (8, .getfield 7, 3) := by decide +kernel
theorem i134_50 : zfetch 134 50 = some (8, .iconst 2, 1) := by decide +kernel
theorem i134_51 : zfetch 134 51 = some (8, .iaload, 1) := by decide +kernel
theorem i134_52 : zfetch 134 52 = some (8, .if_icmp .ne 7, 3) := by decide +kernel
theorem i134_55 : zfetch 134 55 = some (8, .iconst 1, 1) := by decide +kernel
theorem i134_56 : zfetch 134 56 = some (8, .goto 4, 3) := by decide +kernel
theorem i134_59 : zfetch 134 59 = some (8, .iconst 0, 1) := by decide +kernel
theorem i134_60 : zfetch 134 60 = some (8, .istore_n 2, 1) := by decide +kernel
theorem i134_61 : zfetch 134 61 = some (8, .aload_n 0, 1) := by decide +kernel
theorem i134_62 : zfetch 134 62 = some (8, .getfield 7, 3) := by decide +kernel
theorem i134_65 : zfetch 134 65 = some (8, .iconst 2, 1) := by decide +kernel
theorem i134_66 : zfetch 134 66 = some (8, .iconst 0, 1) := by decide +kernel
theorem i134_67 : zfetch 134 67 = some (8, .iastore, 1) := by decide +kernel
theorem i134_68 : zfetch 134 68 = some (8, .iload_n 2, 1) := by decide +kernel
theorem i134_69 : zfetch 134 69 = some (8, .ifCond .ne 11, 3) := by decide +kernel
theorem i134_72 : zfetch 134 72 = some (8, .bipush (-10), 2) := by decide +kernel
theorem i134_74 : zfetch 134 74 = some (8, .aload_n 0, 1) := by decide +kernel
theorem i134_75 : zfetch 134 75 = some (8, .getfield 64, 3) := by decide +kernel
theorem i134_78 : zfetch 134 78 = some (8, .isub, 1) := by decide +kernel
theorem i134_79 : zfetch 134 79 = some (8, .ireturn, 1) := by decide +kernel
theorem i134_80 : zfetch 134 80 = some (8, .bipush 60, 2) := by decide +kernel
theorem i134_82 : zfetch 134 82 = some (8, .bipush 125, 2) := by decide +kernel
theorem i134_84 : zfetch 134 84 = some (8, .iload_n 1, 1) := by decide +kernel
theorem i134_85 : zfetch 134 85 = some (8, .imul, 1) := by decide +kernel
theorem i134_86 : zfetch 134 86 = some (8, .iadd, 1) := by decide +kernel
theorem i134_87 : zfetch 134 87 = some (8, .istore_n 3, 1) := by decide +kernel
theorem i134_88 : zfetch 134 88 = some (8, .aload_n 0, 1) := by decide +kernel
theorem i134_89 : zfetch 134 89 = some (8, .getfield 7, 3) := by decide +kernel
theorem i134_92 : zfetch 134 92 = some (8, .iload_n 3, 1) := by decide +kernel
theorem i134_93 : zfetch 134 93 = some (8, .aload_n 0, 1) := by decide +kernel
theorem i134_94 : zfetch 134 94 = some (8, .getfield 71, 3) := by decide +kernel
theorem i134_97 : zfetch 134 97 = some (8, .iastore, 1) := by decide +kernel
theorem i134_98 : zfetch 134 98 = some (8, .iconst 0, 1) := by decide +kernel
theorem i134_99 : zfetch 134 99 = some (8, .istore 4, 2) := by decide +kernel
theorem i134_101 : zfetch 134 101 = some (8, .iload 4, 2) := by decide +kernel
theorem i134_103 : zfetch 134 103 = some (8, .iconst 2, 1) := by decide +kernel
theorem i134_104 : zfetch 134 104 = some (8, .aload_n 0, 1) := by decide +kernel
theorem i134_105 : zfetch 134 105 = some (8, .getfield 71, 3) := by decide +kernel
theorem i134_108 : zfetch 134 108 = some (8, .imul, 1) := by decide +kernel
theorem i134_109 : zfetch 134 109 = some (8, .if_icmp .ge 27, 3) := by decide +kernel
theorem i134_112 : zfetch 134 112 = some (8, .aload_n 0, 1) := by decide +kernel
theorem i134_113 : zfetch 134 113 = some (8, .getfield 7, 3) := by decide +kernel
theorem i134_116 : zfetch 134 116 = some (8, .iload_n 3, 1) := by decide +kernel
