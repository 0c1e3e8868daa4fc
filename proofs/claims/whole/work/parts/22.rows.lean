/-! rows of the tables, one by one -/
theorem f_0_0 : zft 0 0 = some (1, .aload_n 0) := by decide +kernel
theorem f_0_1 : zft 0 1 = some (3, .invokespecial 3) := by decide +kernel
theorem f_0_4 : zft 0 4 = some (1, .aload_n 0) := by decide +kernel
theorem f_0_5 : zft 0 5 = some (2, .bipush 23) := by decide +kernel
theorem f_0_7 : zft 0 7 = some (2, .newarray .int) := by decide +kernel
theorem f_0_9 : zft 0 9 = some (3, .putfield 11) := by decide +kernel
theorem f_0_12 : zft 0 12 = some (1, .aload_n 0) := by decide +kernel
theorem f_0_13 : zft 0 13 = some (2, .bipush 23) := by decide +kernel
theorem f_0_15 : zft 0 15 = some (2, .newarray .int) := by decide +kernel
theorem f_0_17 : zft 0 17 = some (3, .putfield 15) := by decide +kernel
theorem f_0_20 : zft 0 20 = some (1, .aload_n 0) := by decide +kernel
theorem f_0_21 : zft 0 21 = some (2, .bipush 23) := by decide +kernel
theorem f_0_23 : zft 0 23 = some (2, .newarray .int) := by decide +kernel
theorem f_0_25 : zft 0 25 = some (3, .putfield 18) := by decide +kernel
theorem f_0_28 : zft 0 28 = some (1, .aload_n 0) := by decide +kernel
theorem f_0_29 : zft 0 29 = some (2, .bipush 23) := by decide +kernel
theorem f_0_31 : zft 0 31 = some (2, .newarray .int) := by decide +kernel
theorem f_0_33 : zft 0 33 = some (3, .putfield 21) := by decide +kernel
theorem f_0_36 : zft 0 36 = some (1, .aload_n 0) := by decide +kernel
theorem f_0_37 : zft 0 37 = some (2, .bipush 23) := by decide +kernel
theorem f_0_39 : zft 0 39 = some (2, .newarray .int) := by decide +kernel
theorem f_0_41 : zft 0 41 = some (3, .putfield 24) := by decide +kernel
theorem f_0_44 : zft 0 44 = some (1, .aload_n 0) := by decide +kernel
theorem f_0_45 : zft 0 45 = some (2, .bipush 23) := by decide +kernel
theorem f_0_47 : zft 0 47 = some (2, .newarray .int) := by decide +kernel
theorem f_0_49 : zft 0 49 = some (3, .putfield 27) := by decide +kernel
theorem f_0_52 : zft 0 52 = some (1, .aload_n 0) := by decide +kernel
theorem f_0_53 : zft 0 53 = some (2, .bipush 12) := by decide +kernel
theorem f_0_55 : zft 0 55 = some (2, .newarray .int) := by decide +kernel
theorem f_0_57 : zft 0 57 = some (3, .putfield 30) := by decide +kernel
theorem f_0_60 : zft 0 60 = some (1, .aload_n 0) := by decide +kernel
theorem f_0_61 : zft 0 61 = some (2, .bipush 12) := by decide +kernel
theorem f_0_63 : zft 0 63 = some (2, .newarray .int) := by decide +kernel
theorem f_0_65 : zft 0 65 = some (3, .putfield 33) := by decide +kernel
theorem f_0_68 : zft 0 68 = some (1, .aload_n 0) := by decide +kernel
theorem f_0_69 : zft 0 69 = some (1, .iconst 0) := by decide +kernel
theorem f_0_70 : zft 0 70 = some (3, .putfield 36) := by decide +kernel
theorem f_0_73 : zft 0 73 = some (1, .aload_n 0) := by decide +kernel
theorem f_0_74 : zft 0 74 = some (1, .iconst 0) := by decide +kernel
theorem f_0_75 : zft 0 75 = some (3, .putfield 40) := by decide +kernel
theorem f_0_78 : zft 0 78 = some (1, .aload_n 0) := by decide +kernel
theorem f_0_79 : zft 0 79 = some (1, .iconst 0) := by decide +kernel
theorem f_0_80 : zft 0 80 = some (3, .putfield 43) := by decide +kernel
theorem f_0_83 : zft 0 83 = some (1, .aload_n 0) := by decide +kernel
theorem f_0_84 : zft 0 84 = some (1, .iconst 0) := by decide +kernel
theorem f_0_85 : zft 0 85 = some (3, .putfield 46) := by decide +kernel
theorem f_0_88 : zft 0 88 = some (1, .return_) := by decide +kernel
theorem f_1_0 : zft 1 0 = some (1, .aload_n 0) := by decide +kernel
theorem f_1_1 : zft 1 1 = some (1, .iload_n 2) := by decide +kernel
theorem f_1_2 : zft 1 2 = some (3, .putfield 46) := by decide +kernel
theorem f_1_5 : zft 1 5 = some (1, .aload_n 0) := by decide +kernel
theorem f_1_6 : zft 1 6 = some (1, .iconst 0) := by decide +kernel
theorem f_1_7 : zft 1 7 = some (3, .putfield 36) := by decide +kernel
theorem f_1_10 : zft 1 10 = some (1, .aload_n 0) := by decide +kernel
theorem f_1_11 : zft 1 11 = some (1, .iconst 0) := by decide +kernel
theorem f_1_12 : zft 1 12 = some (3, .putfield 40) := by decide +kernel
theorem f_1_15 : zft 1 15 = some (1, .aload_n 0) := by decide +kernel
theorem f_1_16 : zft 1 16 = some (1, .iconst 0) := by decide +kernel
theorem f_1_17 : zft 1 17 = some (3, .putfield 43) := by decide +kernel
theorem f_1_20 : zft 1 20 = some (1, .aload_n 1) := by decide +kernel
theorem f_1_21 : zft 1 21 = some (3, .invokevirtual 49) := by decide +kernel
theorem f_1_24 : zft 1 24 = some (1, .aload_n 0) := by decide +kernel
theorem f_1_25 : zft 1 25 = some (1, .aload_n 0) := by decide +kernel
theorem f_1_26 : zft 1 26 = some (1, .iconst 0) := by decide +kernel
theorem f_1_27 : zft 1 27 = some (1, .iconst 0) := by decide +kernel
theorem f_1_28 : zft 1 28 = some (2, .bipush 24) := by decide +kernel
theorem f_1_30 : zft 1 30 = some (2, .bipush 16) := by decide +kernel
theorem f_1_32 : zft 1 32 = some (3, .invokevirtual 54) := by decide +kernel
theorem f_1_35 : zft 1 35 = some (1, .iload_n 3) := by decide +kernel
theorem f_1_36 : zft 1 36 = some (3, .invokestatic 58) := by decide +kernel
theorem f_1_39 : zft 1 39 = some (1, .iconst 0) := by decide +kernel
theorem f_1_40 : zft 1 40 = some (2, .istore 4) := by decide +kernel
theorem f_1_42 : zft 1 42 = some (2, .iload 4) := by decide +kernel
theorem f_1_44 : zft 1 44 = some (1, .aload_n 0) := by decide +kernel
theorem f_1_45 : zft 1 45 = some (3, .getfield 40) := by decide +kernel
theorem f_1_48 : zft 1 48 = some (3, .if_icmp .ge 21) := by decide +kernel
theorem f_1_51 : zft 1 51 = some (1, .aload_n 0) := by decide +kernel
theorem f_1_52 : zft 1 52 = some (1, .aload_n 1) := by decide +kernel
theorem f_1_53 : zft 1 53 = some (1, .aload_n 0) := by decide +kernel
theorem f_1_54 : zft 1 54 = some (3, .getfield 30) := by decide +kernel
theorem f_1_57 : zft 1 57 = some (2, .iload 4) := by decide +kernel
theorem f_1_59 : zft 1 59 = some (1, .iaload) := by decide +kernel
theorem f_1_60 : zft 1 60 = some (3, .invokevirtual 62) := by decide +kernel
theorem f_1_63 : zft 1 63 = some (3, .iinc 4 1) := by decide +kernel
theorem f_1_66 : zft 1 66 = some (3, .goto (-24)) := by decide +kernel
theorem f_1_69 : zft 1 69 = some (1, .iconst 0) := by decide +kernel
theorem f_1_70 : zft 1 70 = some (2, .istore 4) := by decide +kernel
theorem f_1_72 : zft 1 72 = some (2, .iload 4) := by decide +kernel
theorem f_1_74 : zft 1 74 = some (1, .aload_n 0) := by decide +kernel
theorem f_1_75 : zft 1 75 = some (3, .getfield 43) := by decide +kernel
theorem f_1_78 : zft 1 78 = some (3, .if_icmp .ge 30) := by decide +kernel
theorem f_1_81 : zft 1 81 = some (1, .aload_n 0) := by decide +kernel
theorem f_1_82 : zft 1 82 = some (1, .aload_n 1) := by decide +kernel
theorem f_1_83 : zft 1 83 = some (1, .aload_n 0) := by decide +kernel
theorem f_1_84 : zft 1 84 = some (3, .getfield 33) := by decide +kernel
theorem f_1_87 : zft 1 87 = some (2, .iload 4) := by decide +kernel
theorem f_1_89 : zft 1 89 = some (1, .iaload) := by decide +kernel
theorem f_1_90 : zft 1 90 = some (1, .aload_n 0) := by decide +kernel
theorem f_1_91 : zft 1 91 = some (3, .getfield 33) := by decide +kernel
theorem f_1_94 : zft 1 94 = some (2, .iload 4) := by decide +kernel
theorem f_1_96 : zft 1 96 = some (1, .iaload) := by decide +kernel
theorem f_1_97 : zft 1 97 = some (1, .iconst 1) := by decide +kernel
theorem f_1_98 : zft 1 98 = some (1, .iadd) := by decide +kernel
theorem f_1_99 : zft 1 99 = some (3, .invokevirtual 66) := by decide +kernel
theorem f_1_102 : zft 1 102 = some (3, .iinc 4 1) := by decide +kernel
theorem f_1_105 : zft 1 105 = some (3, .goto (-33)) := by decide +kernel
theorem f_1_108 : zft 1 108 = some (1, .return_) := by decide +kernel
theorem f_2_0 : zft 2 0 = some (1, .aload_n 0) := by decide +kernel
theorem f_2_1 : zft 2 1 = some (1, .aload_n 0) := by decide +kernel
theorem f_2_2 : zft 2 2 = some (3, .getfield 46) := by decide +kernel
theorem f_2_5 : zft 2 5 = some (2, .ldc 70) := by decide +kernel
theorem f_2_7 : zft 2 7 = some (1, .imul) := by decide +kernel
theorem f_2_8 : zft 2 8 = some (3, .sipush 12345) := by decide +kernel
theorem f_2_11 : zft 2 11 = some (1, .iadd) := by decide +kernel
theorem f_2_12 : zft 2 12 = some (3, .putfield 46) := by decide +kernel
theorem f_2_15 : zft 2 15 = some (1, .iload_n 1) := by decide +kernel
theorem f_2_16 : zft 2 16 = some (3, .ifCond .gt 7) := by decide +kernel
theorem f_2_19 : zft 2 19 = some (1, .iconst 0) := by decide +kernel
theorem f_2_20 : zft 2 20 = some (3, .goto 16) := by decide +kernel
theorem f_2_23 : zft 2 23 = some (1, .aload_n 0) := by decide +kernel
theorem f_2_24 : zft 2 24 = some (3, .getfield 46) := by decide +kernel
theorem f_2_27 : zft 2 27 = some (2, .bipush 16) := by decide +kernel
theorem f_2_29 : zft 2 29 = some (1, .iushr) := by decide +kernel
theorem f_2_30 : zft 2 30 = some (3, .sipush 32767) := by decide +kernel
theorem f_2_33 : zft 2 33 = some (1, .iand) := by decide +kernel
theorem f_2_34 : zft 2 34 = some (1, .iload_n 1) := by decide +kernel
theorem f_2_35 : zft 2 35 = some (1, .irem) := by decide +kernel
theorem f_2_36 : zft 2 36 = some (1, .ireturn) := by decide +kernel
theorem f_3_0 : zft 3 0 = some (1, .aload_n 0) := by decide +kernel
theorem f_3_1 : zft 3 1 = some (3, .getfield 36) := by decide +kernel
theorem f_3_4 : zft 3 4 = some (2, .bipush 23) := by decide +kernel
theorem f_3_6 : zft 3 6 = some (3, .if_icmp .lt 5) := by decide +kernel
theorem f_3_9 : zft 3 9 = some (1, .iconst (-1)) := by decide +kernel
theorem f_3_10 : zft 3 10 = some (1, .ireturn) := by decide +kernel
theorem f_3_11 : zft 3 11 = some (1, .aload_n 0) := by decide +kernel
theorem f_3_12 : zft 3 12 = some (3, .getfield 11) := by decide +kernel
theorem f_3_15 : zft 3 15 = some (1, .aload_n 0) := by decide +kernel
theorem f_3_16 : zft 3 16 = some (3, .getfield 36) := by decide +kernel
theorem f_3_19 : zft 3 19 = some (1, .iload_n 1) := by decide +kernel
theorem f_3_20 : zft 3 20 = some (1, .iastore) := by decide +kernel
theorem f_3_21 : zft 3 21 = some (1, .aload_n 0) := by decide +kernel
theorem f_3_22 : zft 3 22 = some (3, .getfield 15) := by decide +kernel
theorem f_3_25 : zft 3 25 = some (1, .aload_n 0) := by decide +kernel
theorem f_3_26 : zft 3 26 = some (3, .getfield 36) := by decide +kernel
theorem f_3_29 : zft 3 29 = some (1, .iload_n 2) := by decide +kernel
theorem f_3_30 : zft 3 30 = some (1, .iastore) := by decide +kernel
theorem f_3_31 : zft 3 31 = some (1, .aload_n 0) := by decide +kernel
theorem f_3_32 : zft 3 32 = some (3, .getfield 18) := by decide +kernel
theorem f_3_35 : zft 3 35 = some (1, .aload_n 0) := by decide +kernel
theorem f_3_36 : zft 3 36 = some (3, .getfield 36) := by decide +kernel
theorem f_3_39 : zft 3 39 = some (1, .iload_n 3) := by decide +kernel
theorem f_3_40 : zft 3 40 = some (1, .iastore) := by decide +kernel
theorem f_3_41 : zft 3 41 = some (1, .aload_n 0) := by decide +kernel
theorem f_3_42 : zft 3 42 = some (3, .getfield 21) := by decide +kernel
theorem f_3_45 : zft 3 45 = some (1, .aload_n 0) := by decide +kernel
theorem f_3_46 : zft 3 46 = some (3, .getfield 36) := by decide +kernel
theorem f_3_49 : zft 3 49 = some (2, .iload 4) := by decide +kernel
theorem f_3_51 : zft 3 51 = some (1, .iastore) := by decide +kernel
theorem f_3_52 : zft 3 52 = some (1, .aload_n 0) := by decide +kernel
theorem f_3_53 : zft 3 53 = some (1, .dup) := by decide +kernel
theorem f_3_54 : zft 3 54 = some (3, .getfield 36) := by decide +kernel
theorem f_3_57 : zft 3 57 = some (1, .iconst 1) := by decide +kernel
theorem f_3_58 : zft 3 58 = some (1, .iadd) := by decide +kernel
theorem f_3_59 : zft 3 59 = some (3, .putfield 36) := by decide +kernel
theorem f_3_62 : zft 3 62 = some (1, .aload_n 0) := by decide +kernel
theorem f_3_63 : zft 3 63 = some (3, .getfield 36) := by decide +kernel
theorem f_3_66 : zft 3 66 = some (1, .iconst 1) := by decide +kernel
theorem f_3_67 : zft 3 67 = some (1, .isub) := by decide +kernel
theorem f_3_68 : zft 3 68 = some (1, .ireturn) := by decide +kernel
theorem f_4_0 : zft 4 0 = some (1, .iload_n 1) := by decide +kernel
theorem f_4_1 : zft 4 1 = some (3, .ifCond .lt 9) := by decide +kernel
theorem f_4_4 : zft 4 4 = some (1, .iload_n 1) := by decide +kernel
theorem f_4_5 : zft 4 5 = some (2, .bipush 23) := by decide +kernel
theorem f_4_7 : zft 4 7 = some (3, .if_icmp .lt 4) := by decide +kernel
theorem f_4_10 : zft 4 10 = some (1, .return_) := by decide +kernel
theorem f_4_11 : zft 4 11 = some (1, .aload_n 0) := by decide +kernel
theorem f_4_12 : zft 4 12 = some (3, .getfield 24) := by decide +kernel
theorem f_4_15 : zft 4 15 = some (1, .iload_n 1) := by decide +kernel
theorem f_4_16 : zft 4 16 = some (1, .aload_n 0) := by decide +kernel
theorem f_4_17 : zft 4 17 = some (3, .getfield 40) := by decide +kernel
theorem f_4_20 : zft 4 20 = some (1, .iastore) := by decide +kernel
theorem f_4_21 : zft 4 21 = some (1, .iload_n 2) := by decide +kernel
theorem f_4_22 : zft 4 22 = some (3, .ifCond .le 11) := by decide +kernel
theorem f_4_25 : zft 4 25 = some (1, .aload_n 0) := by decide +kernel
theorem f_4_26 : zft 4 26 = some (1, .iload_n 1) := by decide +kernel
theorem f_4_27 : zft 4 27 = some (3, .invokevirtual 71) := by decide +kernel
theorem f_4_30 : zft 4 30 = some (3, .goto 4) := by decide +kernel
theorem f_4_33 : zft 4 33 = some (1, .iconst (-1)) := by decide +kernel
theorem f_4_34 : zft 4 34 = some (1, .istore_n 3) := by decide +kernel
theorem f_4_35 : zft 4 35 = some (1, .iload_n 3) := by decide +kernel
theorem f_4_36 : zft 4 36 = some (1, .iconst (-1)) := by decide +kernel
theorem f_4_37 : zft 4 37 = some (3, .if_icmp .ne 11) := by decide +kernel
theorem f_4_40 : zft 4 40 = some (1, .aload_n 0) := by decide +kernel
theorem f_4_41 : zft 4 41 = some (1, .iload_n 1) := by decide +kernel
theorem f_4_42 : zft 4 42 = some (3, .invokevirtual 75) := by decide +kernel
theorem f_4_45 : zft 4 45 = some (3, .goto 26) := by decide +kernel
theorem f_4_48 : zft 4 48 = some (1, .aload_n 0) := by decide +kernel
theorem f_4_49 : zft 4 49 = some (1, .iload_n 3) := by decide +kernel
theorem f_4_50 : zft 4 50 = some (1, .iload_n 2) := by decide +kernel
theorem f_4_51 : zft 4 51 = some (1, .iconst 1) := by decide +kernel
theorem f_4_52 : zft 4 52 = some (1, .isub) := by decide +kernel
theorem f_4_53 : zft 4 53 = some (3, .invokestatic 58) := by decide +kernel
theorem f_4_56 : zft 4 56 = some (1, .aload_n 0) := by decide +kernel
theorem f_4_57 : zft 4 57 = some (1, .iload_n 3) := by decide +kernel
theorem f_4_58 : zft 4 58 = some (1, .iconst 1) := by decide +kernel
theorem f_4_59 : zft 4 59 = some (1, .iadd) := by decide +kernel
theorem f_4_60 : zft 4 60 = some (1, .iload_n 2) := by decide +kernel
theorem f_4_61 : zft 4 61 = some (1, .iconst 1) := by decide +kernel
theorem f_4_62 : zft 4 62 = some (1, .isub) := by decide +kernel
theorem f_4_63 : zft 4 63 = some (3, .invokestatic 58) := by decide +kernel
theorem f_4_66 : zft 4 66 = some (1, .aload_n 0) := by decide +kernel
theorem f_4_67 : zft 4 67 = some (1, .iload_n 3) := by decide +kernel
theorem f_4_68 : zft 4 68 = some (3, .invokevirtual 79) := by decide +kernel
theorem f_4_71 : zft 4 71 = some (1, .aload_n 0) := by decide +kernel
theorem f_4_72 : zft 4 72 = some (3, .getfield 27) := by decide +kernel
theorem f_4_75 : zft 4 75 = some (1, .iload_n 1) := by decide +kernel
theorem f_4_76 : zft 4 76 = some (1, .aload_n 0) := by decide +kernel
theorem f_4_77 : zft 4 77 = some (3, .getfield 40) := by decide +kernel
theorem f_4_80 : zft 4 80 = some (1, .iastore) := by decide +kernel
theorem f_4_81 : zft 4 81 = some (1, .return_) := by decide +kernel
theorem f_5_0 : zft 5 0 = some (1, .aload_n 0) := by decide +kernel
theorem f_5_1 : zft 5 1 = some (3, .getfield 40) := by decide +kernel
theorem f_5_4 : zft 5 4 = some (2, .bipush 12) := by decide +kernel
theorem f_5_6 : zft 5 6 = some (3, .if_icmp .ge 23) := by decide +kernel
theorem f_5_9 : zft 5 9 = some (1, .aload_n 0) := by decide +kernel
theorem f_5_10 : zft 5 10 = some (3, .getfield 30) := by decide +kernel
theorem f_5_13 : zft 5 13 = some (1, .aload_n 0) := by decide +kernel
theorem f_5_14 : zft 5 14 = some (3, .getfield 40) := by decide +kernel
theorem f_5_17 : zft 5 17 = some (1, .iload_n 1) := by decide +kernel
theorem f_5_18 : zft 5 18 = some (1, .iastore) := by decide +kernel
theorem f_5_19 : zft 5 19 = some (1, .aload_n 0) := by decide +kernel
theorem f_5_20 : zft 5 20 = some (1, .dup) := by decide +kernel
theorem f_5_21 : zft 5 21 = some (3, .getfield 40) := by decide +kernel
theorem f_5_24 : zft 5 24 = some (1, .iconst 1) := by decide +kernel
theorem f_5_25 : zft 5 25 = some (1, .iadd) := by decide +kernel
theorem f_5_26 : zft 5 26 = some (3, .putfield 40) := by decide +kernel
theorem f_5_29 : zft 5 29 = some (1, .return_) := by decide +kernel
theorem f_6_0 : zft 6 0 = some (1, .aload_n 0) := by decide +kernel
theorem f_6_1 : zft 6 1 = some (3, .getfield 43) := by decide +kernel
theorem f_6_4 : zft 6 4 = some (2, .bipush 12) := by decide +kernel
theorem f_6_6 : zft 6 6 = some (3, .if_icmp .ge 23) := by decide +kernel
theorem f_6_9 : zft 6 9 = some (1, .aload_n 0) := by decide +kernel
theorem f_6_10 : zft 6 10 = some (3, .getfield 33) := by decide +kernel
theorem f_6_13 : zft 6 13 = some (1, .aload_n 0) := by decide +kernel
theorem f_6_14 : zft 6 14 = some (3, .getfield 43) := by decide +kernel
theorem f_6_17 : zft 6 17 = some (1, .iload_n 1) := by decide +kernel
theorem f_6_18 : zft 6 18 = some (1, .iastore) := by decide +kernel
theorem f_6_19 : zft 6 19 = some (1, .aload_n 0) := by decide +kernel
theorem f_6_20 : zft 6 20 = some (1, .dup) := by decide +kernel
theorem f_6_21 : zft 6 21 = some (3, .getfield 43) := by decide +kernel
theorem f_6_24 : zft 6 24 = some (1, .iconst 1) := by decide +kernel
theorem f_6_25 : zft 6 25 = some (1, .iadd) := by decide +kernel
theorem f_6_26 : zft 6 26 = some (3, .putfield 43) := by decide +kernel
theorem f_6_29 : zft 6 29 = some (1, .return_) := by decide +kernel
theorem f_7_0 : zft 7 0 = some (1, .aload_n 0) := by decide +kernel
theorem f_7_1 : zft 7 1 = some (3, .getfield 11) := by decide +kernel
theorem f_7_4 : zft 7 4 = some (1, .iload_n 1) := by decide +kernel
theorem f_7_5 : zft 7 5 = some (1, .iaload) := by decide +kernel
theorem f_7_6 : zft 7 6 = some (1, .istore_n 2) := by decide +kernel
theorem f_7_7 : zft 7 7 = some (1, .aload_n 0) := by decide +kernel
theorem f_7_8 : zft 7 8 = some (3, .getfield 15) := by decide +kernel
theorem f_7_11 : zft 7 11 = some (1, .iload_n 1) := by decide +kernel
theorem f_7_12 : zft 7 12 = some (1, .iaload) := by decide +kernel
theorem f_7_13 : zft 7 13 = some (1, .istore_n 3) := by decide +kernel
theorem f_7_14 : zft 7 14 = some (1, .aload_n 0) := by decide +kernel
theorem f_7_15 : zft 7 15 = some (3, .getfield 18) := by decide +kernel
theorem f_7_18 : zft 7 18 = some (1, .iload_n 1) := by decide +kernel
theorem f_7_19 : zft 7 19 = some (1, .iaload) := by decide +kernel
theorem f_7_20 : zft 7 20 = some (2, .istore 4) := by decide +kernel
theorem f_7_22 : zft 7 22 = some (1, .aload_n 0) := by decide +kernel
theorem f_7_23 : zft 7 23 = some (3, .getfield 21) := by decide +kernel
theorem f_7_26 : zft 7 26 = some (1, .iload_n 1) := by decide +kernel
theorem f_7_27 : zft 7 27 = some (1, .iaload) := by decide +kernel
theorem f_7_28 : zft 7 28 = some (2, .istore 5) := by decide +kernel
theorem f_7_30 : zft 7 30 = some (2, .iload 4) := by decide +kernel
theorem f_7_32 : zft 7 32 = some (2, .bipush 10) := by decide +kernel
theorem f_7_34 : zft 7 34 = some (3, .if_icmp .ge 10) := by decide +kernel
theorem f_7_37 : zft 7 37 = some (2, .iload 5) := by decide +kernel
theorem f_7_39 : zft 7 39 = some (2, .bipush 10) := by decide +kernel
theorem f_7_41 : zft 7 41 = some (3, .if_icmp .lt 14) := by decide +kernel
theorem f_7_44 : zft 7 44 = some (1, .aload_n 0) := by decide +kernel
theorem f_7_45 : zft 7 45 = some (3, .getfield 36) := by decide +kernel
theorem f_7_48 : zft 7 48 = some (1, .iconst 2) := by decide +kernel
theorem f_7_49 : zft 7 49 = some (1, .iadd) := by decide +kernel
theorem f_7_50 : zft 7 50 = some (2, .bipush 23) := by decide +kernel
theorem f_7_52 : zft 7 52 = some (3, .if_icmp .le 5) := by decide +kernel
theorem f_7_55 : zft 7 55 = some (1, .iconst (-1)) := by decide +kernel
theorem f_7_56 : zft 7 56 = some (1, .ireturn) := by decide +kernel
theorem f_7_57 : zft 7 57 = some (2, .iload 4) := by decide +kernel
theorem f_7_59 : zft 7 59 = some (2, .bipush 10) := by decide +kernel
theorem f_7_61 : zft 7 61 = some (3, .if_icmp .lt 14) := by decide +kernel
theorem f_7_64 : zft 7 64 = some (2, .iload 5) := by decide +kernel
theorem f_7_66 : zft 7 66 = some (2, .bipush 10) := by decide +kernel
theorem f_7_68 : zft 7 68 = some (3, .if_icmp .lt 7) := by decide +kernel
theorem f_7_71 : zft 7 71 = some (1, .iconst 1) := by decide +kernel
theorem f_7_72 : zft 7 72 = some (3, .goto 4) := by decide +kernel
theorem f_7_75 : zft 7 75 = some (1, .iconst 0) := by decide +kernel
theorem f_7_76 : zft 7 76 = some (2, .istore 6) := by decide +kernel
theorem f_7_78 : zft 7 78 = some (2, .iload 6) := by decide +kernel
theorem f_7_80 : zft 7 80 = some (3, .ifCond .eq 19) := by decide +kernel
theorem f_7_83 : zft 7 83 = some (1, .aload_n 0) := by decide +kernel
theorem f_7_84 : zft 7 84 = some (1, .iconst 2) := by decide +kernel
theorem f_7_85 : zft 7 85 = some (3, .invokevirtual 82) := by decide +kernel
theorem f_7_88 : zft 7 88 = some (3, .ifCond .ne 7) := by decide +kernel
theorem f_7_91 : zft 7 91 = some (1, .iconst 1) := by decide +kernel
theorem f_7_92 : zft 7 92 = some (3, .goto 19) := by decide +kernel
theorem f_7_95 : zft 7 95 = some (1, .iconst 0) := by decide +kernel
theorem f_7_96 : zft 7 96 = some (3, .goto 15) := by decide +kernel
theorem f_7_99 : zft 7 99 = some (2, .iload 4) := by decide +kernel
theorem f_7_101 : zft 7 101 = some (2, .bipush 10) := by decide +kernel
theorem f_7_103 : zft 7 103 = some (3, .if_icmp .lt 7) := by decide +kernel
theorem f_7_106 : zft 7 106 = some (1, .iconst 1) := by decide +kernel
theorem f_7_107 : zft 7 107 = some (3, .goto 4) := by decide +kernel
theorem f_7_110 : zft 7 110 = some (1, .iconst 0) := by decide +kernel
theorem f_7_111 : zft 7 111 = some (2, .istore 7) := by decide +kernel
theorem f_7_113 : zft 7 113 = some (1, .iconst 5) := by decide +kernel
theorem f_7_114 : zft 7 114 = some (1, .aload_n 0) := by decide +kernel
theorem f_7_115 : zft 7 115 = some (2, .iload 7) := by decide +kernel
theorem f_7_117 : zft 7 117 = some (3, .ifCond .eq 8) := by decide +kernel
theorem f_7_120 : zft 7 120 = some (2, .iload 4) := by decide +kernel
theorem f_7_122 : zft 7 122 = some (3, .goto 5) := by decide +kernel
theorem f_7_125 : zft 7 125 = some (2, .iload 5) := by decide +kernel
theorem f_7_127 : zft 7 127 = some (2, .bipush 10) := by decide +kernel
theorem f_7_129 : zft 7 129 = some (1, .isub) := by decide +kernel
theorem f_7_130 : zft 7 130 = some (1, .iconst 1) := by decide +kernel
theorem f_7_131 : zft 7 131 = some (1, .iadd) := by decide +kernel
theorem f_7_132 : zft 7 132 = some (3, .invokevirtual 82) := by decide +kernel
theorem f_7_135 : zft 7 135 = some (1, .iadd) := by decide +kernel
theorem f_7_136 : zft 7 136 = some (2, .istore 8) := by decide +kernel
theorem f_7_138 : zft 7 138 = some (2, .iload 7) := by decide +kernel
theorem f_7_140 : zft 7 140 = some (3, .ifCond .eq 16) := by decide +kernel
theorem f_7_143 : zft 7 143 = some (1, .aload_n 0) := by decide +kernel
theorem f_7_144 : zft 7 144 = some (1, .iload_n 2) := by decide +kernel
theorem f_7_145 : zft 7 145 = some (1, .iload_n 3) := by decide +kernel
theorem f_7_146 : zft 7 146 = some (2, .iload 8) := by decide +kernel
theorem f_7_148 : zft 7 148 = some (2, .iload 5) := by decide +kernel
theorem f_7_150 : zft 7 150 = some (3, .invokevirtual 54) := by decide +kernel
theorem f_7_153 : zft 7 153 = some (3, .goto 13) := by decide +kernel
theorem f_7_156 : zft 7 156 = some (1, .aload_n 0) := by decide +kernel
theorem f_7_157 : zft 7 157 = some (1, .iload_n 2) := by decide +kernel
theorem f_7_158 : zft 7 158 = some (1, .iload_n 3) := by decide +kernel
theorem f_7_159 : zft 7 159 = some (2, .iload 4) := by decide +kernel
theorem f_7_161 : zft 7 161 = some (2, .iload 8) := by decide +kernel
theorem f_7_163 : zft 7 163 = some (3, .invokevirtual 54) := by decide +kernel
theorem f_7_166 : zft 7 166 = some (2, .istore 9) := by decide +kernel
theorem f_7_168 : zft 7 168 = some (2, .iload 7) := by decide +kernel
theorem f_7_170 : zft 7 170 = some (3, .ifCond .eq 23) := by decide +kernel
theorem f_7_173 : zft 7 173 = some (1, .aload_n 0) := by decide +kernel
theorem f_7_174 : zft 7 174 = some (1, .iload_n 2) := by decide +kernel
theorem f_7_175 : zft 7 175 = some (2, .iload 8) := by decide +kernel
theorem f_7_177 : zft 7 177 = some (1, .iadd) := by decide +kernel
theorem f_7_178 : zft 7 178 = some (1, .iload_n 3) := by decide +kernel
theorem f_7_179 : zft 7 179 = some (2, .iload 4) := by decide +kernel
theorem f_7_181 : zft 7 181 = some (2, .iload 8) := by decide +kernel
theorem f_7_183 : zft 7 183 = some (1, .isub) := by decide +kernel
theorem f_7_184 : zft 7 184 = some (2, .iload 5) := by decide +kernel
theorem f_7_186 : zft 7 186 = some (3, .invokevirtual 54) := by decide +kernel
theorem f_7_189 : zft 7 189 = some (1, .pop) := by decide +kernel
theorem f_7_190 : zft 7 190 = some (3, .goto 20) := by decide +kernel
theorem f_7_193 : zft 7 193 = some (1, .aload_n 0) := by decide +kernel
theorem f_7_194 : zft 7 194 = some (1, .iload_n 2) := by decide +kernel
theorem f_7_195 : zft 7 195 = some (1, .iload_n 3) := by decide +kernel
theorem f_7_196 : zft 7 196 = some (2, .iload 8) := by decide +kernel
theorem f_7_198 : zft 7 198 = some (1, .iadd) := by decide +kernel
theorem f_7_199 : zft 7 199 = some (2, .iload 4) := by decide +kernel
theorem f_7_201 : zft 7 201 = some (2, .iload 5) := by decide +kernel
theorem f_7_203 : zft 7 203 = some (2, .iload 8) := by decide +kernel
theorem f_7_205 : zft 7 205 = some (1, .isub) := by decide +kernel
theorem f_7_206 : zft 7 206 = some (3, .invokevirtual 54) := by decide +kernel
theorem f_7_209 : zft 7 209 = some (1, .pop) := by decide +kernel
theorem f_7_210 : zft 7 210 = some (2, .iload 9) := by decide +kernel
theorem f_7_212 : zft 7 212 = some (1, .ireturn) := by decide +kernel
theorem f_8_0 : zft 8 0 = some (2, .bipush 12) := by decide +kernel
theorem f_8_2 : zft 8 2 = some (1, .iconst 3) := by decide +kernel
theorem f_8_3 : zft 8 3 = some (1, .aload_n 0) := by decide +kernel
theorem f_8_4 : zft 8 4 = some (1, .aload_n 0) := by decide +kernel
theorem f_8_5 : zft 8 5 = some (3, .getfield 18) := by decide +kernel
theorem f_8_8 : zft 8 8 = some (1, .iload_n 2) := by decide +kernel
theorem f_8_9 : zft 8 9 = some (1, .iaload) := by decide +kernel
theorem f_8_10 : zft 8 10 = some (1, .iconst 4) := by decide +kernel
theorem f_8_11 : zft 8 11 = some (1, .isub) := by decide +kernel
theorem f_8_12 : zft 8 12 = some (3, .invokevirtual 82) := by decide +kernel
theorem f_8_15 : zft 8 15 = some (1, .iadd) := by decide +kernel
theorem f_8_16 : zft 8 16 = some (3, .invokestatic 85) := by decide +kernel
theorem f_8_19 : zft 8 19 = some (1, .istore_n 3) := by decide +kernel
theorem f_8_20 : zft 8 20 = some (2, .bipush 12) := by decide +kernel
theorem f_8_22 : zft 8 22 = some (1, .iconst 3) := by decide +kernel
theorem f_8_23 : zft 8 23 = some (1, .aload_n 0) := by decide +kernel
theorem f_8_24 : zft 8 24 = some (1, .aload_n 0) := by decide +kernel
theorem f_8_25 : zft 8 25 = some (3, .getfield 21) := by decide +kernel
theorem f_8_28 : zft 8 28 = some (1, .iload_n 2) := by decide +kernel
theorem f_8_29 : zft 8 29 = some (1, .iaload) := by decide +kernel
theorem f_8_30 : zft 8 30 = some (1, .iconst 4) := by decide +kernel
theorem f_8_31 : zft 8 31 = some (1, .isub) := by decide +kernel
theorem f_8_32 : zft 8 32 = some (3, .invokevirtual 82) := by decide +kernel
theorem f_8_35 : zft 8 35 = some (1, .iadd) := by decide +kernel
theorem f_8_36 : zft 8 36 = some (3, .invokestatic 85) := by decide +kernel
theorem f_8_39 : zft 8 39 = some (2, .istore 4) := by decide +kernel
theorem f_8_41 : zft 8 41 = some (1, .aload_n 0) := by decide +kernel
theorem f_8_42 : zft 8 42 = some (3, .getfield 11) := by decide +kernel
theorem f_8_45 : zft 8 45 = some (1, .iload_n 2) := by decide +kernel
theorem f_8_46 : zft 8 46 = some (1, .iaload) := by decide +kernel
theorem f_8_47 : zft 8 47 = some (1, .iconst 1) := by decide +kernel
theorem f_8_48 : zft 8 48 = some (1, .iadd) := by decide +kernel
theorem f_8_49 : zft 8 49 = some (1, .aload_n 0) := by decide +kernel
theorem f_8_50 : zft 8 50 = some (1, .aload_n 0) := by decide +kernel
theorem f_8_51 : zft 8 51 = some (3, .getfield 18) := by decide +kernel
theorem f_8_54 : zft 8 54 = some (1, .iload_n 2) := by decide +kernel
theorem f_8_55 : zft 8 55 = some (1, .iaload) := by decide +kernel
theorem f_8_56 : zft 8 56 = some (1, .iload_n 3) := by decide +kernel
theorem f_8_57 : zft 8 57 = some (1, .isub) := by decide +kernel
theorem f_8_58 : zft 8 58 = some (1, .iconst 1) := by decide +kernel
theorem f_8_59 : zft 8 59 = some (1, .isub) := by decide +kernel
theorem f_8_60 : zft 8 60 = some (3, .invokevirtual 82) := by decide +kernel
theorem f_8_63 : zft 8 63 = some (1, .iadd) := by decide +kernel
theorem f_8_64 : zft 8 64 = some (2, .istore 5) := by decide +kernel
theorem f_8_66 : zft 8 66 = some (1, .aload_n 0) := by decide +kernel
theorem f_8_67 : zft 8 67 = some (3, .getfield 15) := by decide +kernel
theorem f_8_70 : zft 8 70 = some (1, .iload_n 2) := by decide +kernel
theorem f_8_71 : zft 8 71 = some (1, .iaload) := by decide +kernel
theorem f_8_72 : zft 8 72 = some (1, .iconst 1) := by decide +kernel
theorem f_8_73 : zft 8 73 = some (1, .iadd) := by decide +kernel
theorem f_8_74 : zft 8 74 = some (1, .aload_n 0) := by decide +kernel
theorem f_8_75 : zft 8 75 = some (1, .aload_n 0) := by decide +kernel
theorem f_8_76 : zft 8 76 = some (3, .getfield 21) := by decide +kernel
theorem f_8_79 : zft 8 79 = some (1, .iload_n 2) := by decide +kernel
theorem f_8_80 : zft 8 80 = some (1, .iaload) := by decide +kernel
theorem f_8_81 : zft 8 81 = some (2, .iload 4) := by decide +kernel
theorem f_8_83 : zft 8 83 = some (1, .isub) := by decide +kernel
theorem f_8_84 : zft 8 84 = some (1, .iconst 1) := by decide +kernel
theorem f_8_85 : zft 8 85 = some (1, .isub) := by decide +kernel
theorem f_8_86 : zft 8 86 = some (3, .invokevirtual 82) := by decide +kernel
theorem f_8_89 : zft 8 89 = some (1, .iadd) := by decide +kernel
theorem f_8_90 : zft 8 90 = some (2, .istore 6) := by decide +kernel
theorem f_8_92 : zft 8 92 = some (1, .aload_n 1) := by decide +kernel
theorem f_8_93 : zft 8 93 = some (2, .iload 5) := by decide +kernel
theorem f_8_95 : zft 8 95 = some (2, .iload 6) := by decide +kernel
theorem f_8_97 : zft 8 97 = some (1, .iload_n 3) := by decide +kernel
theorem f_8_98 : zft 8 98 = some (2, .iload 4) := by decide +kernel
theorem f_8_100 : zft 8 100 = some (3, .invokevirtual 91) := by decide +kernel
theorem f_8_103 : zft 8 103 = some (1, .pop) := by decide +kernel
theorem f_8_104 : zft 8 104 = some (1, .return_) := by decide +kernel
theorem f_9_0 : zft 9 0 = some (1, .iconst (-1)) := by decide +kernel
theorem f_9_1 : zft 9 1 = some (2, .istore 4) := by decide +kernel
theorem f_9_3 : zft 9 3 = some (1, .iconst (-1)) := by decide +kernel
theorem f_9_4 : zft 9 4 = some (2, .istore 5) := by decide +kernel
theorem f_9_6 : zft 9 6 = some (2, .bipush 40) := by decide +kernel
theorem f_9_8 : zft 9 8 = some (2, .istore 6) := by decide +kernel
theorem f_9_10 : zft 9 10 = some (1, .aload_n 0) := by decide +kernel
theorem f_9_11 : zft 9 11 = some (3, .getfield 24) := by decide +kernel
theorem f_9_14 : zft 9 14 = some (1, .iload_n 2) := by decide +kernel
theorem f_9_15 : zft 9 15 = some (1, .iaload) := by decide +kernel
theorem f_9_16 : zft 9 16 = some (2, .istore 7) := by decide +kernel
theorem f_9_18 : zft 9 18 = some (2, .iload 7) := by decide +kernel
theorem f_9_20 : zft 9 20 = some (1, .aload_n 0) := by decide +kernel
theorem f_9_21 : zft 9 21 = some (3, .getfield 27) := by decide +kernel
theorem f_9_24 : zft 9 24 = some (1, .iload_n 2) := by decide +kernel
theorem f_9_25 : zft 9 25 = some (1, .iaload) := by decide +kernel
theorem f_9_26 : zft 9 26 = some (3, .if_icmp .ge 65) := by decide +kernel
theorem f_9_29 : zft 9 29 = some (1, .aload_n 0) := by decide +kernel
theorem f_9_30 : zft 9 30 = some (3, .getfield 24) := by decide +kernel
theorem f_9_33 : zft 9 33 = some (1, .iload_n 3) := by decide +kernel
theorem f_9_34 : zft 9 34 = some (1, .iaload) := by decide +kernel
theorem f_9_35 : zft 9 35 = some (2, .istore 8) := by decide +kernel
theorem f_9_37 : zft 9 37 = some (2, .iload 8) := by decide +kernel
theorem f_9_39 : zft 9 39 = some (1, .aload_n 0) := by decide +kernel
theorem f_9_40 : zft 9 40 = some (3, .getfield 27) := by decide +kernel
theorem f_9_43 : zft 9 43 = some (1, .iload_n 3) := by decide +kernel
theorem f_9_44 : zft 9 44 = some (1, .iaload) := by decide +kernel
theorem f_9_45 : zft 9 45 = some (3, .if_icmp .ge 40) := by decide +kernel
theorem f_9_48 : zft 9 48 = some (1, .aload_n 1) := by decide +kernel
theorem f_9_49 : zft 9 49 = some (2, .iload 7) := by decide +kernel
theorem f_9_51 : zft 9 51 = some (2, .iload 8) := by decide +kernel
theorem f_9_53 : zft 9 53 = some (3, .invokevirtual 94) := by decide +kernel
theorem f_9_56 : zft 9 56 = some (2, .iload 6) := by decide +kernel
theorem f_9_58 : zft 9 58 = some (3, .if_icmp .ge 21) := by decide +kernel
theorem f_9_61 : zft 9 61 = some (2, .iload 7) := by decide +kernel
theorem f_9_63 : zft 9 63 = some (2, .istore 4) := by decide +kernel
theorem f_9_65 : zft 9 65 = some (2, .iload 8) := by decide +kernel
theorem f_9_67 : zft 9 67 = some (2, .istore 5) := by decide +kernel
theorem f_9_69 : zft 9 69 = some (1, .aload_n 1) := by decide +kernel
theorem f_9_70 : zft 9 70 = some (2, .iload 7) := by decide +kernel
theorem f_9_72 : zft 9 72 = some (2, .iload 8) := by decide +kernel
theorem f_9_74 : zft 9 74 = some (3, .invokevirtual 94) := by decide +kernel
theorem f_9_77 : zft 9 77 = some (2, .istore 6) := by decide +kernel
theorem f_9_79 : zft 9 79 = some (3, .iinc 8 1) := by decide +kernel
theorem f_9_82 : zft 9 82 = some (3, .goto (-45)) := by decide +kernel
theorem f_9_85 : zft 9 85 = some (3, .iinc 7 1) := by decide +kernel
theorem f_9_88 : zft 9 88 = some (3, .goto (-70)) := by decide +kernel
theorem f_9_91 : zft 9 91 = some (1, .aload_n 1) := by decide +kernel
theorem f_9_92 : zft 9 92 = some (2, .iload 4) := by decide +kernel
theorem f_9_94 : zft 9 94 = some (2, .iload 5) := by decide +kernel
theorem f_9_96 : zft 9 96 = some (3, .invokevirtual 97) := by decide +kernel
theorem f_9_99 : zft 9 99 = some (1, .pop) := by decide +kernel
theorem f_9_100 : zft 9 100 = some (1, .return_) := by decide +kernel
theorem f_10_0 : zft 10 0 = some (1, .aload_n 0) := by decide +kernel
theorem f_10_1 : zft 10 1 = some (3, .invokespecial 3) := by decide +kernel
theorem f_10_4 : zft 10 4 = some (1, .aload_n 0) := by decide +kernel
theorem f_10_5 : zft 10 5 = some (2, .bipush 12) := by decide +kernel
theorem f_10_7 : zft 10 7 = some (2, .newarray .int) := by decide +kernel
theorem f_10_9 : zft 10 9 = some (3, .putfield 9) := by decide +kernel
theorem f_10_12 : zft 10 12 = some (1, .aload_n 0) := by decide +kernel
theorem f_10_13 : zft 10 13 = some (2, .bipush 12) := by decide +kernel
theorem f_10_15 : zft 10 15 = some (2, .newarray .int) := by decide +kernel
theorem f_10_17 : zft 10 17 = some (3, .putfield 15) := by decide +kernel
theorem f_10_20 : zft 10 20 = some (1, .aload_n 0) := by decide +kernel
theorem f_10_21 : zft 10 21 = some (2, .bipush 12) := by decide +kernel
theorem f_10_23 : zft 10 23 = some (2, .newarray .int) := by decide +kernel
theorem f_10_25 : zft 10 25 = some (3, .putfield 18) := by decide +kernel
theorem f_10_28 : zft 10 28 = some (1, .aload_n 0) := by decide +kernel
theorem f_10_29 : zft 10 29 = some (2, .bipush 12) := by decide +kernel
theorem f_10_31 : zft 10 31 = some (2, .newarray .int) := by decide +kernel
theorem f_10_33 : zft 10 33 = some (3, .putfield 21) := by decide +kernel
theorem f_10_36 : zft 10 36 = some (1, .aload_n 0) := by decide +kernel
theorem f_10_37 : zft 10 37 = some (2, .bipush 12) := by decide +kernel
theorem f_10_39 : zft 10 39 = some (2, .newarray .int) := by decide +kernel
theorem f_10_41 : zft 10 41 = some (3, .putfield 24) := by decide +kernel
theorem f_10_44 : zft 10 44 = some (1, .aload_n 0) := by decide +kernel
theorem f_10_45 : zft 10 45 = some (2, .bipush 20) := by decide +kernel
theorem f_10_47 : zft 10 47 = some (2, .newarray .int) := by decide +kernel
theorem f_10_49 : zft 10 49 = some (3, .putfield 27) := by decide +kernel
theorem f_10_52 : zft 10 52 = some (1, .aload_n 0) := by decide +kernel
theorem f_10_53 : zft 10 53 = some (2, .bipush 20) := by decide +kernel
theorem f_10_55 : zft 10 55 = some (2, .newarray .int) := by decide +kernel
theorem f_10_57 : zft 10 57 = some (3, .putfield 30) := by decide +kernel
theorem f_10_60 : zft 10 60 = some (1, .aload_n 0) := by decide +kernel
theorem f_10_61 : zft 10 61 = some (2, .bipush 20) := by decide +kernel
theorem f_10_63 : zft 10 63 = some (2, .newarray .int) := by decide +kernel
theorem f_10_65 : zft 10 65 = some (3, .putfield 33) := by decide +kernel
theorem f_10_68 : zft 10 68 = some (1, .aload_n 0) := by decide +kernel
theorem f_10_69 : zft 10 69 = some (1, .iconst 0) := by decide +kernel
theorem f_10_70 : zft 10 70 = some (3, .putfield 36) := by decide +kernel
theorem f_10_73 : zft 10 73 = some (1, .aload_n 0) := by decide +kernel
theorem f_10_74 : zft 10 74 = some (1, .iconst 0) := by decide +kernel
theorem f_10_75 : zft 10 75 = some (3, .putfield 40) := by decide +kernel
theorem f_10_78 : zft 10 78 = some (1, .aload_n 0) := by decide +kernel
theorem f_10_79 : zft 10 79 = some (1, .iconst 0) := by decide +kernel
theorem f_10_80 : zft 10 80 = some (3, .putfield 43) := by decide +kernel
theorem f_10_83 : zft 10 83 = some (1, .aload_n 0) := by decide +kernel
theorem f_10_84 : zft 10 84 = some (1, .iconst 0) := by decide +kernel
theorem f_10_85 : zft 10 85 = some (3, .putfield 46) := by decide +kernel
theorem f_10_88 : zft 10 88 = some (1, .return_) := by decide +kernel
theorem f_11_0 : zft 11 0 = some (1, .iconst 0) := by decide +kernel
theorem f_11_1 : zft 11 1 = some (1, .istore_n 2) := by decide +kernel
theorem f_11_2 : zft 11 2 = some (1, .iload_n 2) := by decide +kernel
theorem f_11_3 : zft 11 3 = some (1, .aload_n 1) := by decide +kernel
theorem f_11_4 : zft 11 4 = some (3, .getfield 36) := by decide +kernel
theorem f_11_7 : zft 11 7 = some (3, .if_icmp .ge 16) := by decide +kernel
theorem f_11_10 : zft 11 10 = some (1, .aload_n 0) := by decide +kernel
theorem f_11_11 : zft 11 11 = some (1, .iload_n 2) := by decide +kernel
theorem f_11_12 : zft 11 12 = some (1, .aload_n 1) := by decide +kernel
theorem f_11_13 : zft 11 13 = some (1, .iload_n 2) := by decide +kernel
theorem f_11_14 : zft 11 14 = some (3, .invokevirtual 49) := by decide +kernel
theorem f_11_17 : zft 11 17 = some (3, .iinc 2 1) := by decide +kernel
theorem f_11_20 : zft 11 20 = some (3, .goto (-18)) := by decide +kernel
theorem f_11_23 : zft 11 23 = some (1, .iconst 0) := by decide +kernel
theorem f_11_24 : zft 11 24 = some (1, .istore_n 2) := by decide +kernel
theorem f_11_25 : zft 11 25 = some (1, .iload_n 2) := by decide +kernel
theorem f_11_26 : zft 11 26 = some (1, .aload_n 1) := by decide +kernel
theorem f_11_27 : zft 11 27 = some (3, .getfield 40) := by decide +kernel
theorem f_11_30 : zft 11 30 = some (3, .if_icmp .ge 16) := by decide +kernel
theorem f_11_33 : zft 11 33 = some (1, .aload_n 0) := by decide +kernel
theorem f_11_34 : zft 11 34 = some (1, .iload_n 2) := by decide +kernel
theorem f_11_35 : zft 11 35 = some (1, .aload_n 1) := by decide +kernel
theorem f_11_36 : zft 11 36 = some (1, .iload_n 2) := by decide +kernel
theorem f_11_37 : zft 11 37 = some (3, .invokevirtual 53) := by decide +kernel
theorem f_11_40 : zft 11 40 = some (3, .iinc 2 1) := by decide +kernel
theorem f_11_43 : zft 11 43 = some (3, .goto (-18)) := by decide +kernel
theorem f_11_46 : zft 11 46 = some (1, .aload_n 0) := by decide +kernel
theorem f_11_47 : zft 11 47 = some (1, .aload_n 1) := by decide +kernel
theorem f_11_48 : zft 11 48 = some (3, .getfield 36) := by decide +kernel
theorem f_11_51 : zft 11 51 = some (3, .putfield 36) := by decide +kernel
theorem f_11_54 : zft 11 54 = some (1, .aload_n 0) := by decide +kernel
theorem f_11_55 : zft 11 55 = some (1, .aload_n 1) := by decide +kernel
theorem f_11_56 : zft 11 56 = some (3, .getfield 40) := by decide +kernel
theorem f_11_59 : zft 11 59 = some (3, .putfield 40) := by decide +kernel
theorem f_11_62 : zft 11 62 = some (1, .aload_n 0) := by decide +kernel
theorem f_11_63 : zft 11 63 = some (1, .aload_n 1) := by decide +kernel
theorem f_11_64 : zft 11 64 = some (3, .getfield 43) := by decide +kernel
theorem f_11_67 : zft 11 67 = some (3, .putfield 43) := by decide +kernel
theorem f_11_70 : zft 11 70 = some (1, .aload_n 0) := by decide +kernel
theorem f_11_71 : zft 11 71 = some (1, .aload_n 1) := by decide +kernel
theorem f_11_72 : zft 11 72 = some (3, .getfield 46) := by decide +kernel
theorem f_11_75 : zft 11 75 = some (3, .putfield 46) := by decide +kernel
theorem f_11_78 : zft 11 78 = some (1, .return_) := by decide +kernel
theorem f_12_0 : zft 12 0 = some (1, .aload_n 0) := by decide +kernel
theorem f_12_1 : zft 12 1 = some (3, .getfield 9) := by decide +kernel
theorem f_12_4 : zft 12 4 = some (1, .iload_n 1) := by decide +kernel
theorem f_12_5 : zft 12 5 = some (1, .aload_n 2) := by decide +kernel
theorem f_12_6 : zft 12 6 = some (3, .getfield 9) := by decide +kernel
theorem f_12_9 : zft 12 9 = some (1, .iload_n 3) := by decide +kernel
theorem f_12_10 : zft 12 10 = some (1, .iaload) := by decide +kernel
theorem f_12_11 : zft 12 11 = some (1, .iastore) := by decide +kernel
theorem f_12_12 : zft 12 12 = some (1, .aload_n 0) := by decide +kernel
theorem f_12_13 : zft 12 13 = some (3, .getfield 15) := by decide +kernel
theorem f_12_16 : zft 12 16 = some (1, .iload_n 1) := by decide +kernel
theorem f_12_17 : zft 12 17 = some (1, .aload_n 2) := by decide +kernel
theorem f_12_18 : zft 12 18 = some (3, .getfield 15) := by decide +kernel
theorem f_12_21 : zft 12 21 = some (1, .iload_n 3) := by decide +kernel
theorem f_12_22 : zft 12 22 = some (1, .iaload) := by decide +kernel
theorem f_12_23 : zft 12 23 = some (1, .iastore) := by decide +kernel
theorem f_12_24 : zft 12 24 = some (1, .aload_n 0) := by decide +kernel
theorem f_12_25 : zft 12 25 = some (3, .getfield 18) := by decide +kernel
theorem f_12_28 : zft 12 28 = some (1, .iload_n 1) := by decide +kernel
theorem f_12_29 : zft 12 29 = some (1, .aload_n 2) := by decide +kernel
theorem f_12_30 : zft 12 30 = some (3, .getfield 18) := by decide +kernel
theorem f_12_33 : zft 12 33 = some (1, .iload_n 3) := by decide +kernel
theorem f_12_34 : zft 12 34 = some (1, .iaload) := by decide +kernel
theorem f_12_35 : zft 12 35 = some (1, .iastore) := by decide +kernel
theorem f_12_36 : zft 12 36 = some (1, .aload_n 0) := by decide +kernel
theorem f_12_37 : zft 12 37 = some (3, .getfield 21) := by decide +kernel
theorem f_12_40 : zft 12 40 = some (1, .iload_n 1) := by decide +kernel
theorem f_12_41 : zft 12 41 = some (1, .aload_n 2) := by decide +kernel
theorem f_12_42 : zft 12 42 = some (3, .getfield 21) := by decide +kernel
theorem f_12_45 : zft 12 45 = some (1, .iload_n 3) := by decide +kernel
theorem f_12_46 : zft 12 46 = some (1, .iaload) := by decide +kernel
theorem f_12_47 : zft 12 47 = some (1, .iastore) := by decide +kernel
theorem f_12_48 : zft 12 48 = some (1, .aload_n 0) := by decide +kernel
theorem f_12_49 : zft 12 49 = some (3, .getfield 24) := by decide +kernel
theorem f_12_52 : zft 12 52 = some (1, .iload_n 1) := by decide +kernel
theorem f_12_53 : zft 12 53 = some (1, .aload_n 2) := by decide +kernel
theorem f_12_54 : zft 12 54 = some (3, .getfield 24) := by decide +kernel
theorem f_12_57 : zft 12 57 = some (1, .iload_n 3) := by decide +kernel
theorem f_12_58 : zft 12 58 = some (1, .iaload) := by decide +kernel
theorem f_12_59 : zft 12 59 = some (1, .iastore) := by decide +kernel
theorem f_12_60 : zft 12 60 = some (1, .return_) := by decide +kernel
theorem f_13_0 : zft 13 0 = some (1, .aload_n 0) := by decide +kernel
theorem f_13_1 : zft 13 1 = some (3, .getfield 27) := by decide +kernel
theorem f_13_4 : zft 13 4 = some (1, .iload_n 1) := by decide +kernel
theorem f_13_5 : zft 13 5 = some (1, .aload_n 2) := by decide +kernel
theorem f_13_6 : zft 13 6 = some (3, .getfield 27) := by decide +kernel
theorem f_13_9 : zft 13 9 = some (1, .iload_n 3) := by decide +kernel
theorem f_13_10 : zft 13 10 = some (1, .iaload) := by decide +kernel
theorem f_13_11 : zft 13 11 = some (1, .iastore) := by decide +kernel
theorem f_13_12 : zft 13 12 = some (1, .aload_n 0) := by decide +kernel
theorem f_13_13 : zft 13 13 = some (3, .getfield 30) := by decide +kernel
theorem f_13_16 : zft 13 16 = some (1, .iload_n 1) := by decide +kernel
theorem f_13_17 : zft 13 17 = some (1, .aload_n 2) := by decide +kernel
theorem f_13_18 : zft 13 18 = some (3, .getfield 30) := by decide +kernel
theorem f_13_21 : zft 13 21 = some (1, .iload_n 3) := by decide +kernel
theorem f_13_22 : zft 13 22 = some (1, .iaload) := by decide +kernel
theorem f_13_23 : zft 13 23 = some (1, .iastore) := by decide +kernel
theorem f_13_24 : zft 13 24 = some (1, .aload_n 0) := by decide +kernel
theorem f_13_25 : zft 13 25 = some (3, .getfield 33) := by decide +kernel
theorem f_13_28 : zft 13 28 = some (1, .iload_n 1) := by decide +kernel
theorem f_13_29 : zft 13 29 = some (1, .aload_n 2) := by decide +kernel
theorem f_13_30 : zft 13 30 = some (3, .getfield 33) := by decide +kernel
theorem f_13_33 : zft 13 33 = some (1, .iload_n 3) := by decide +kernel
theorem f_13_34 : zft 13 34 = some (1, .iaload) := by decide +kernel
theorem f_13_35 : zft 13 35 = some (1, .iastore) := by decide +kernel
theorem f_13_36 : zft 13 36 = some (1, .return_) := by decide +kernel
theorem f_14_0 : zft 14 0 = some (1, .aload_n 0) := by decide +kernel
theorem f_14_1 : zft 14 1 = some (1, .iconst 0) := by decide +kernel
theorem f_14_2 : zft 14 2 = some (3, .putfield 36) := by decide +kernel
theorem f_14_5 : zft 14 5 = some (1, .aload_n 0) := by decide +kernel
theorem f_14_6 : zft 14 6 = some (1, .iconst 0) := by decide +kernel
theorem f_14_7 : zft 14 7 = some (3, .putfield 40) := by decide +kernel
theorem f_14_10 : zft 14 10 = some (1, .aload_n 0) := by decide +kernel
theorem f_14_11 : zft 14 11 = some (1, .iconst 0) := by decide +kernel
theorem f_14_12 : zft 14 12 = some (3, .putfield 43) := by decide +kernel
theorem f_14_15 : zft 14 15 = some (1, .return_) := by decide +kernel
theorem f_15_0 : zft 15 0 = some (1, .iload_n 1) := by decide +kernel
theorem f_15_1 : zft 15 1 = some (3, .ifCond .lt 15) := by decide +kernel
theorem f_15_4 : zft 15 4 = some (1, .iload_n 1) := by decide +kernel
theorem f_15_5 : zft 15 5 = some (1, .aload_n 0) := by decide +kernel
theorem f_15_6 : zft 15 6 = some (3, .getfield 36) := by decide +kernel
theorem f_15_9 : zft 15 9 = some (3, .if_icmp .ge 7) := by decide +kernel
theorem f_15_12 : zft 15 12 = some (1, .iconst 1) := by decide +kernel
theorem f_15_13 : zft 15 13 = some (3, .goto 4) := by decide +kernel
theorem f_15_16 : zft 15 16 = some (1, .iconst 0) := by decide +kernel
theorem f_15_17 : zft 15 17 = some (1, .ireturn) := by decide +kernel
theorem f_16_0 : zft 16 0 = some (1, .iload_n 1) := by decide +kernel
theorem f_16_1 : zft 16 1 = some (3, .ifCond .lt 15) := by decide +kernel
theorem f_16_4 : zft 16 4 = some (1, .iload_n 1) := by decide +kernel
theorem f_16_5 : zft 16 5 = some (1, .aload_n 0) := by decide +kernel
theorem f_16_6 : zft 16 6 = some (3, .getfield 40) := by decide +kernel
theorem f_16_9 : zft 16 9 = some (3, .if_icmp .ge 7) := by decide +kernel
theorem f_16_12 : zft 16 12 = some (1, .iconst 1) := by decide +kernel
theorem f_16_13 : zft 16 13 = some (3, .goto 4) := by decide +kernel
theorem f_16_16 : zft 16 16 = some (1, .iconst 0) := by decide +kernel
theorem f_16_17 : zft 16 17 = some (1, .ireturn) := by decide +kernel
theorem f_17_0 : zft 17 0 = some (1, .iload_n 1) := by decide +kernel
theorem f_17_1 : zft 17 1 = some (1, .iload_n 2) := by decide +kernel
theorem f_17_2 : zft 17 2 = some (1, .iload_n 3) := by decide +kernel
theorem f_17_3 : zft 17 3 = some (2, .iload 4) := by decide +kernel
theorem f_17_5 : zft 17 5 = some (3, .invokestatic 56) := by decide +kernel
theorem f_17_8 : zft 17 8 = some (3, .ifCond .ne 6) := by decide +kernel
theorem f_17_11 : zft 17 11 = some (2, .bipush (-102)) := by decide +kernel
theorem f_17_13 : zft 17 13 = some (1, .ireturn) := by decide +kernel
theorem f_17_14 : zft 17 14 = some (1, .aload_n 0) := by decide +kernel
theorem f_17_15 : zft 17 15 = some (1, .iload_n 1) := by decide +kernel
theorem f_17_16 : zft 17 16 = some (1, .iload_n 2) := by decide +kernel
theorem f_17_17 : zft 17 17 = some (1, .iload_n 3) := by decide +kernel
theorem f_17_18 : zft 17 18 = some (2, .iload 4) := by decide +kernel
theorem f_17_20 : zft 17 20 = some (3, .invokevirtual 60) := by decide +kernel
theorem f_17_23 : zft 17 23 = some (3, .ifCond .eq 6) := by decide +kernel
theorem f_17_26 : zft 17 26 = some (2, .bipush (-106)) := by decide +kernel
theorem f_17_28 : zft 17 28 = some (1, .ireturn) := by decide +kernel
theorem f_17_29 : zft 17 29 = some (1, .aload_n 0) := by decide +kernel
theorem f_17_30 : zft 17 30 = some (3, .getfield 36) := by decide +kernel
theorem f_17_33 : zft 17 33 = some (2, .bipush 12) := by decide +kernel
theorem f_17_35 : zft 17 35 = some (3, .if_icmp .lt 6) := by decide +kernel
theorem f_17_38 : zft 17 38 = some (2, .bipush (-103)) := by decide +kernel
theorem f_17_40 : zft 17 40 = some (1, .ireturn) := by decide +kernel
theorem f_17_41 : zft 17 41 = some (1, .aload_n 0) := by decide +kernel
theorem f_17_42 : zft 17 42 = some (3, .getfield 9) := by decide +kernel
theorem f_17_45 : zft 17 45 = some (1, .aload_n 0) := by decide +kernel
theorem f_17_46 : zft 17 46 = some (3, .getfield 36) := by decide +kernel
theorem f_17_49 : zft 17 49 = some (1, .iload_n 1) := by decide +kernel
theorem f_17_50 : zft 17 50 = some (1, .iastore) := by decide +kernel
theorem f_17_51 : zft 17 51 = some (1, .aload_n 0) := by decide +kernel
theorem f_17_52 : zft 17 52 = some (3, .getfield 15) := by decide +kernel
theorem f_17_55 : zft 17 55 = some (1, .aload_n 0) := by decide +kernel
theorem f_17_56 : zft 17 56 = some (3, .getfield 36) := by decide +kernel
theorem f_17_59 : zft 17 59 = some (1, .iload_n 2) := by decide +kernel
theorem f_17_60 : zft 17 60 = some (1, .iastore) := by decide +kernel
theorem f_17_61 : zft 17 61 = some (1, .aload_n 0) := by decide +kernel
theorem f_17_62 : zft 17 62 = some (3, .getfield 18) := by decide +kernel
theorem f_17_65 : zft 17 65 = some (1, .aload_n 0) := by decide +kernel
theorem f_17_66 : zft 17 66 = some (3, .getfield 36) := by decide +kernel
theorem f_17_69 : zft 17 69 = some (1, .iload_n 3) := by decide +kernel
theorem f_17_70 : zft 17 70 = some (1, .iastore) := by decide +kernel
theorem f_17_71 : zft 17 71 = some (1, .aload_n 0) := by decide +kernel
theorem f_17_72 : zft 17 72 = some (3, .getfield 21) := by decide +kernel
theorem f_17_75 : zft 17 75 = some (1, .aload_n 0) := by decide +kernel
theorem f_17_76 : zft 17 76 = some (3, .getfield 36) := by decide +kernel
theorem f_17_79 : zft 17 79 = some (2, .iload 4) := by decide +kernel
theorem f_17_81 : zft 17 81 = some (1, .iastore) := by decide +kernel
theorem f_17_82 : zft 17 82 = some (1, .aload_n 0) := by decide +kernel
theorem f_17_83 : zft 17 83 = some (3, .getfield 24) := by decide +kernel
theorem f_17_86 : zft 17 86 = some (1, .aload_n 0) := by decide +kernel
theorem f_17_87 : zft 17 87 = some (3, .getfield 36) := by decide +kernel
theorem f_17_90 : zft 17 90 = some (1, .iconst (-1)) := by decide +kernel
theorem f_17_91 : zft 17 91 = some (1, .iastore) := by decide +kernel
theorem f_17_92 : zft 17 92 = some (1, .aload_n 0) := by decide +kernel
theorem f_17_93 : zft 17 93 = some (1, .dup) := by decide +kernel
theorem f_17_94 : zft 17 94 = some (3, .getfield 36) := by decide +kernel
theorem f_17_97 : zft 17 97 = some (1, .iconst 1) := by decide +kernel
theorem f_17_98 : zft 17 98 = some (1, .iadd) := by decide +kernel
theorem f_17_99 : zft 17 99 = some (3, .putfield 36) := by decide +kernel
theorem f_17_102 : zft 17 102 = some (1, .aload_n 0) := by decide +kernel
theorem f_17_103 : zft 17 103 = some (3, .getfield 36) := by decide +kernel
theorem f_17_106 : zft 17 106 = some (1, .iconst 1) := by decide +kernel
theorem f_17_107 : zft 17 107 = some (1, .isub) := by decide +kernel
theorem f_17_108 : zft 17 108 = some (1, .ireturn) := by decide +kernel
theorem f_18_0 : zft 18 0 = some (1, .iload_n 2) := by decide +kernel
theorem f_18_1 : zft 18 1 = some (1, .iconst 2) := by decide +kernel
theorem f_18_2 : zft 18 2 = some (3, .if_icmp .lt 24) := by decide +kernel
theorem f_18_5 : zft 18 5 = some (1, .iload_n 2) := by decide +kernel
theorem f_18_6 : zft 18 6 = some (2, .bipush 12) := by decide +kernel
theorem f_18_8 : zft 18 8 = some (3, .if_icmp .gt 18) := by decide +kernel
theorem f_18_11 : zft 18 11 = some (1, .iload_n 3) := by decide +kernel
theorem f_18_12 : zft 18 12 = some (1, .iconst 2) := by decide +kernel
theorem f_18_13 : zft 18 13 = some (3, .if_icmp .lt 13) := by decide +kernel
theorem f_18_16 : zft 18 16 = some (1, .iload_n 3) := by decide +kernel
theorem f_18_17 : zft 18 17 = some (2, .bipush 12) := by decide +kernel
theorem f_18_19 : zft 18 19 = some (3, .if_icmp .gt 7) := by decide +kernel
theorem f_18_22 : zft 18 22 = some (1, .iconst 1) := by decide +kernel
theorem f_18_23 : zft 18 23 = some (3, .goto 4) := by decide +kernel
theorem f_18_26 : zft 18 26 = some (1, .iconst 0) := by decide +kernel
theorem f_18_27 : zft 18 27 = some (2, .istore 4) := by decide +kernel
theorem f_18_29 : zft 18 29 = some (2, .iload 4) := by decide +kernel
theorem f_18_31 : zft 18 31 = some (3, .ifCond .eq 31) := by decide +kernel
theorem f_18_34 : zft 18 34 = some (1, .iload_n 0) := by decide +kernel
theorem f_18_35 : zft 18 35 = some (3, .ifCond .lt 27) := by decide +kernel
theorem f_18_38 : zft 18 38 = some (1, .iload_n 0) := by decide +kernel
theorem f_18_39 : zft 18 39 = some (2, .bipush 24) := by decide +kernel
theorem f_18_41 : zft 18 41 = some (1, .iload_n 2) := by decide +kernel
theorem f_18_42 : zft 18 42 = some (1, .isub) := by decide +kernel
theorem f_18_43 : zft 18 43 = some (3, .if_icmp .gt 19) := by decide +kernel
theorem f_18_46 : zft 18 46 = some (1, .iload_n 1) := by decide +kernel
theorem f_18_47 : zft 18 47 = some (3, .ifCond .lt 15) := by decide +kernel
theorem f_18_50 : zft 18 50 = some (1, .iload_n 1) := by decide +kernel
theorem f_18_51 : zft 18 51 = some (2, .bipush 16) := by decide +kernel
theorem f_18_53 : zft 18 53 = some (1, .iload_n 3) := by decide +kernel
theorem f_18_54 : zft 18 54 = some (1, .isub) := by decide +kernel
theorem f_18_55 : zft 18 55 = some (3, .if_icmp .gt 7) := by decide +kernel
theorem f_18_58 : zft 18 58 = some (1, .iconst 1) := by decide +kernel
theorem f_18_59 : zft 18 59 = some (3, .goto 4) := by decide +kernel
theorem f_18_62 : zft 18 62 = some (1, .iconst 0) := by decide +kernel
theorem f_18_63 : zft 18 63 = some (1, .ireturn) := by decide +kernel
theorem f_19_0 : zft 19 0 = some (1, .iconst 0) := by decide +kernel
theorem f_19_1 : zft 19 1 = some (2, .istore 5) := by decide +kernel
theorem f_19_3 : zft 19 3 = some (2, .iload 5) := by decide +kernel
theorem f_19_5 : zft 19 5 = some (1, .aload_n 0) := by decide +kernel
theorem f_19_6 : zft 19 6 = some (3, .getfield 36) := by decide +kernel
theorem f_19_9 : zft 19 9 = some (3, .if_icmp .ge 100) := by decide +kernel
theorem f_19_12 : zft 19 12 = some (1, .iload_n 1) := by decide +kernel
theorem f_19_13 : zft 19 13 = some (1, .aload_n 0) := by decide +kernel
theorem f_19_14 : zft 19 14 = some (3, .getfield 9) := by decide +kernel
theorem f_19_17 : zft 19 17 = some (2, .iload 5) := by decide +kernel
theorem f_19_19 : zft 19 19 = some (1, .iaload) := by decide +kernel
theorem f_19_20 : zft 19 20 = some (1, .aload_n 0) := by decide +kernel
theorem f_19_21 : zft 19 21 = some (3, .getfield 18) := by decide +kernel
theorem f_19_24 : zft 19 24 = some (2, .iload 5) := by decide +kernel
theorem f_19_26 : zft 19 26 = some (1, .iaload) := by decide +kernel
theorem f_19_27 : zft 19 27 = some (1, .iadd) := by decide +kernel
theorem f_19_28 : zft 19 28 = some (3, .if_icmp .ge 20) := by decide +kernel
theorem f_19_31 : zft 19 31 = some (1, .aload_n 0) := by decide +kernel
theorem f_19_32 : zft 19 32 = some (3, .getfield 9) := by decide +kernel
theorem f_19_35 : zft 19 35 = some (2, .iload 5) := by decide +kernel
theorem f_19_37 : zft 19 37 = some (1, .iaload) := by decide +kernel
theorem f_19_38 : zft 19 38 = some (1, .iload_n 1) := by decide +kernel
theorem f_19_39 : zft 19 39 = some (1, .iload_n 3) := by decide +kernel
theorem f_19_40 : zft 19 40 = some (1, .iadd) := by decide +kernel
theorem f_19_41 : zft 19 41 = some (3, .if_icmp .ge 7) := by decide +kernel
theorem f_19_44 : zft 19 44 = some (1, .iconst 1) := by decide +kernel
theorem f_19_45 : zft 19 45 = some (3, .goto 4) := by decide +kernel
theorem f_19_48 : zft 19 48 = some (1, .iconst 0) := by decide +kernel
theorem f_19_49 : zft 19 49 = some (2, .istore 6) := by decide +kernel
theorem f_19_51 : zft 19 51 = some (1, .iload_n 2) := by decide +kernel
theorem f_19_52 : zft 19 52 = some (1, .aload_n 0) := by decide +kernel
theorem f_19_53 : zft 19 53 = some (3, .getfield 15) := by decide +kernel
theorem f_19_56 : zft 19 56 = some (2, .iload 5) := by decide +kernel
theorem f_19_58 : zft 19 58 = some (1, .iaload) := by decide +kernel
theorem f_19_59 : zft 19 59 = some (1, .aload_n 0) := by decide +kernel
theorem f_19_60 : zft 19 60 = some (3, .getfield 21) := by decide +kernel
theorem f_19_63 : zft 19 63 = some (2, .iload 5) := by decide +kernel
theorem f_19_65 : zft 19 65 = some (1, .iaload) := by decide +kernel
theorem f_19_66 : zft 19 66 = some (1, .iadd) := by decide +kernel
theorem f_19_67 : zft 19 67 = some (3, .if_icmp .ge 21) := by decide +kernel
theorem f_19_70 : zft 19 70 = some (1, .aload_n 0) := by decide +kernel
theorem f_19_71 : zft 19 71 = some (3, .getfield 15) := by decide +kernel
theorem f_19_74 : zft 19 74 = some (2, .iload 5) := by decide +kernel
theorem f_19_76 : zft 19 76 = some (1, .iaload) := by decide +kernel
theorem f_19_77 : zft 19 77 = some (1, .iload_n 2) := by decide +kernel
theorem f_19_78 : zft 19 78 = some (2, .iload 4) := by decide +kernel
theorem f_19_80 : zft 19 80 = some (1, .iadd) := by decide +kernel
theorem f_19_81 : zft 19 81 = some (3, .if_icmp .ge 7) := by decide +kernel
theorem f_19_84 : zft 19 84 = some (1, .iconst 1) := by decide +kernel
theorem f_19_85 : zft 19 85 = some (3, .goto 4) := by decide +kernel
theorem f_19_88 : zft 19 88 = some (1, .iconst 0) := by decide +kernel
theorem f_19_89 : zft 19 89 = some (2, .istore 7) := by decide +kernel
theorem f_19_91 : zft 19 91 = some (2, .iload 6) := by decide +kernel
theorem f_19_93 : zft 19 93 = some (3, .ifCond .eq 10) := by decide +kernel
theorem f_19_96 : zft 19 96 = some (2, .iload 7) := by decide +kernel
theorem f_19_98 : zft 19 98 = some (3, .ifCond .eq 5) := by decide +kernel
theorem f_19_101 : zft 19 101 = some (1, .iconst 1) := by decide +kernel
theorem f_19_102 : zft 19 102 = some (1, .ireturn) := by decide +kernel
theorem f_19_103 : zft 19 103 = some (3, .iinc 5 1) := by decide +kernel
theorem f_19_106 : zft 19 106 = some (3, .goto (-103)) := by decide +kernel
theorem f_19_109 : zft 19 109 = some (1, .iconst 0) := by decide +kernel
theorem f_19_110 : zft 19 110 = some (1, .ireturn) := by decide +kernel
theorem f_20_0 : zft 20 0 = some (1, .aload_n 0) := by decide +kernel
theorem f_20_1 : zft 20 1 = some (1, .iload_n 1) := by decide +kernel
theorem f_20_2 : zft 20 2 = some (3, .invokevirtual 63) := by decide +kernel
theorem f_20_5 : zft 20 5 = some (3, .ifCond .eq 11) := by decide +kernel
theorem f_20_8 : zft 20 8 = some (1, .aload_n 0) := by decide +kernel
theorem f_20_9 : zft 20 9 = some (1, .iload_n 2) := by decide +kernel
theorem f_20_10 : zft 20 10 = some (3, .invokevirtual 63) := by decide +kernel
theorem f_20_13 : zft 20 13 = some (3, .ifCond .ne 6) := by decide +kernel
theorem f_20_16 : zft 20 16 = some (2, .bipush (-101)) := by decide +kernel
theorem f_20_18 : zft 20 18 = some (1, .ireturn) := by decide +kernel
theorem f_20_19 : zft 20 19 = some (1, .iload_n 1) := by decide +kernel
theorem f_20_20 : zft 20 20 = some (1, .iload_n 2) := by decide +kernel
theorem f_20_21 : zft 20 21 = some (3, .if_icmp .ne 6) := by decide +kernel
theorem f_20_24 : zft 20 24 = some (2, .bipush (-102)) := by decide +kernel
theorem f_20_26 : zft 20 26 = some (1, .ireturn) := by decide +kernel
theorem f_20_27 : zft 20 27 = some (1, .aload_n 0) := by decide +kernel
theorem f_20_28 : zft 20 28 = some (1, .iload_n 1) := by decide +kernel
theorem f_20_29 : zft 20 29 = some (1, .iload_n 2) := by decide +kernel
theorem f_20_30 : zft 20 30 = some (3, .invokevirtual 67) := by decide +kernel
theorem f_20_33 : zft 20 33 = some (1, .iconst (-1)) := by decide +kernel
theorem f_20_34 : zft 20 34 = some (3, .if_icmp .eq 6) := by decide +kernel
theorem f_20_37 : zft 20 37 = some (2, .bipush (-106)) := by decide +kernel
theorem f_20_39 : zft 20 39 = some (1, .ireturn) := by decide +kernel
theorem f_20_40 : zft 20 40 = some (1, .aload_n 0) := by decide +kernel
theorem f_20_41 : zft 20 41 = some (3, .getfield 40) := by decide +kernel
theorem f_20_44 : zft 20 44 = some (2, .bipush 20) := by decide +kernel
theorem f_20_46 : zft 20 46 = some (3, .if_icmp .lt 6) := by decide +kernel
theorem f_20_49 : zft 20 49 = some (2, .bipush (-103)) := by decide +kernel
theorem f_20_51 : zft 20 51 = some (1, .ireturn) := by decide +kernel
theorem f_20_52 : zft 20 52 = some (1, .aload_n 0) := by decide +kernel
theorem f_20_53 : zft 20 53 = some (3, .getfield 27) := by decide +kernel
theorem f_20_56 : zft 20 56 = some (1, .aload_n 0) := by decide +kernel
theorem f_20_57 : zft 20 57 = some (3, .getfield 40) := by decide +kernel
theorem f_20_60 : zft 20 60 = some (1, .iload_n 1) := by decide +kernel
theorem f_20_61 : zft 20 61 = some (1, .iload_n 2) := by decide +kernel
theorem f_20_62 : zft 20 62 = some (3, .invokestatic 71) := by decide +kernel
theorem f_20_65 : zft 20 65 = some (1, .iastore) := by decide +kernel
theorem f_20_66 : zft 20 66 = some (1, .aload_n 0) := by decide +kernel
theorem f_20_67 : zft 20 67 = some (3, .getfield 30) := by decide +kernel
theorem f_20_70 : zft 20 70 = some (1, .aload_n 0) := by decide +kernel
theorem f_20_71 : zft 20 71 = some (3, .getfield 40) := by decide +kernel
theorem f_20_74 : zft 20 74 = some (1, .iload_n 1) := by decide +kernel
theorem f_20_75 : zft 20 75 = some (1, .iload_n 2) := by decide +kernel
theorem f_20_76 : zft 20 76 = some (3, .invokestatic 76) := by decide +kernel
theorem f_20_79 : zft 20 79 = some (1, .iastore) := by decide +kernel
theorem f_20_80 : zft 20 80 = some (1, .aload_n 0) := by decide +kernel
theorem f_20_81 : zft 20 81 = some (3, .getfield 33) := by decide +kernel
theorem f_20_84 : zft 20 84 = some (1, .aload_n 0) := by decide +kernel
theorem f_20_85 : zft 20 85 = some (3, .getfield 40) := by decide +kernel
theorem f_20_88 : zft 20 88 = some (1, .iconst (-1)) := by decide +kernel
theorem f_20_89 : zft 20 89 = some (1, .iastore) := by decide +kernel
theorem f_20_90 : zft 20 90 = some (1, .aload_n 0) := by decide +kernel
theorem f_20_91 : zft 20 91 = some (1, .dup) := by decide +kernel
theorem f_20_92 : zft 20 92 = some (3, .getfield 40) := by decide +kernel
theorem f_20_95 : zft 20 95 = some (1, .iconst 1) := by decide +kernel
theorem f_20_96 : zft 20 96 = some (1, .iadd) := by decide +kernel
theorem f_20_97 : zft 20 97 = some (3, .putfield 40) := by decide +kernel
theorem f_20_100 : zft 20 100 = some (1, .aload_n 0) := by decide +kernel
theorem f_20_101 : zft 20 101 = some (3, .getfield 40) := by decide +kernel
theorem f_20_104 : zft 20 104 = some (1, .iconst 1) := by decide +kernel
theorem f_20_105 : zft 20 105 = some (1, .isub) := by decide +kernel
theorem f_20_106 : zft 20 106 = some (1, .ireturn) := by decide +kernel
theorem f_21_0 : zft 21 0 = some (1, .iconst (-1)) := by decide +kernel
theorem f_21_1 : zft 21 1 = some (1, .istore_n 1) := by decide +kernel
theorem f_21_2 : zft 21 2 = some (1, .iconst (-1)) := by decide +kernel
theorem f_21_3 : zft 21 3 = some (1, .istore_n 2) := by decide +kernel
theorem f_21_4 : zft 21 4 = some (2, .bipush 40) := by decide +kernel
theorem f_21_6 : zft 21 6 = some (1, .istore_n 3) := by decide +kernel
theorem f_21_7 : zft 21 7 = some (1, .iconst 0) := by decide +kernel
theorem f_21_8 : zft 21 8 = some (2, .istore 4) := by decide +kernel
theorem f_21_10 : zft 21 10 = some (2, .iload 4) := by decide +kernel
theorem f_21_12 : zft 21 12 = some (1, .aload_n 0) := by decide +kernel
theorem f_21_13 : zft 21 13 = some (3, .getfield 36) := by decide +kernel
theorem f_21_16 : zft 21 16 = some (3, .if_icmp .ge 69) := by decide +kernel
theorem f_21_19 : zft 21 19 = some (2, .iload 4) := by decide +kernel
theorem f_21_21 : zft 21 21 = some (1, .iconst 1) := by decide +kernel
theorem f_21_22 : zft 21 22 = some (1, .iadd) := by decide +kernel
theorem f_21_23 : zft 21 23 = some (2, .istore 5) := by decide +kernel
theorem f_21_25 : zft 21 25 = some (2, .iload 5) := by decide +kernel
theorem f_21_27 : zft 21 27 = some (1, .aload_n 0) := by decide +kernel
theorem f_21_28 : zft 21 28 = some (3, .getfield 36) := by decide +kernel
theorem f_21_31 : zft 21 31 = some (3, .if_icmp .ge 48) := by decide +kernel
theorem f_21_34 : zft 21 34 = some (1, .aload_n 0) := by decide +kernel
theorem f_21_35 : zft 21 35 = some (2, .iload 4) := by decide +kernel
theorem f_21_37 : zft 21 37 = some (2, .iload 5) := by decide +kernel
theorem f_21_39 : zft 21 39 = some (3, .invokevirtual 79) := by decide +kernel
theorem f_21_42 : zft 21 42 = some (1, .iload_n 3) := by decide +kernel
theorem f_21_43 : zft 21 43 = some (3, .if_icmp .ge 30) := by decide +kernel
theorem f_21_46 : zft 21 46 = some (1, .aload_n 0) := by decide +kernel
theorem f_21_47 : zft 21 47 = some (2, .iload 4) := by decide +kernel
theorem f_21_49 : zft 21 49 = some (2, .iload 5) := by decide +kernel
theorem f_21_51 : zft 21 51 = some (3, .invokevirtual 67) := by decide +kernel
theorem f_21_54 : zft 21 54 = some (1, .iconst (-1)) := by decide +kernel
theorem f_21_55 : zft 21 55 = some (3, .if_icmp .ne 18) := by decide +kernel
theorem f_21_58 : zft 21 58 = some (2, .iload 4) := by decide +kernel
theorem f_21_60 : zft 21 60 = some (1, .istore_n 1) := by decide +kernel
theorem f_21_61 : zft 21 61 = some (2, .iload 5) := by decide +kernel
theorem f_21_63 : zft 21 63 = some (1, .istore_n 2) := by decide +kernel
theorem f_21_64 : zft 21 64 = some (1, .aload_n 0) := by decide +kernel
theorem f_21_65 : zft 21 65 = some (2, .iload 4) := by decide +kernel
theorem f_21_67 : zft 21 67 = some (2, .iload 5) := by decide +kernel
theorem f_21_69 : zft 21 69 = some (3, .invokevirtual 79) := by decide +kernel
theorem f_21_72 : zft 21 72 = some (1, .istore_n 3) := by decide +kernel
theorem f_21_73 : zft 21 73 = some (3, .iinc 5 1) := by decide +kernel
theorem f_21_76 : zft 21 76 = some (3, .goto (-51)) := by decide +kernel
theorem f_21_79 : zft 21 79 = some (3, .iinc 4 1) := by decide +kernel
theorem f_21_82 : zft 21 82 = some (3, .goto (-72)) := by decide +kernel
theorem f_21_85 : zft 21 85 = some (1, .iload_n 1) := by decide +kernel
theorem f_21_86 : zft 21 86 = some (1, .iconst (-1)) := by decide +kernel
theorem f_21_87 : zft 21 87 = some (3, .if_icmp .ne 8) := by decide +kernel
theorem f_21_90 : zft 21 90 = some (2, .bipush (-104)) := by decide +kernel
theorem f_21_92 : zft 21 92 = some (3, .goto 9) := by decide +kernel
theorem f_21_95 : zft 21 95 = some (1, .aload_n 0) := by decide +kernel
theorem f_21_96 : zft 21 96 = some (1, .iload_n 1) := by decide +kernel
theorem f_21_97 : zft 21 97 = some (1, .iload_n 2) := by decide +kernel
theorem f_21_98 : zft 21 98 = some (3, .invokevirtual 82) := by decide +kernel
theorem f_21_101 : zft 21 101 = some (1, .ireturn) := by decide +kernel
theorem f_22_0 : zft 22 0 = some (1, .aload_n 0) := by decide +kernel
theorem f_22_1 : zft 22 1 = some (1, .iload_n 1) := by decide +kernel
theorem f_22_2 : zft 22 2 = some (3, .invokevirtual 85) := by decide +kernel
theorem f_22_5 : zft 22 5 = some (3, .ifCond .ne 6) := by decide +kernel
theorem f_22_8 : zft 22 8 = some (2, .bipush (-101)) := by decide +kernel
theorem f_22_10 : zft 22 10 = some (1, .ireturn) := by decide +kernel
theorem f_22_11 : zft 22 11 = some (1, .iload_n 2) := by decide +kernel
theorem f_22_12 : zft 22 12 = some (3, .invokestatic 88) := by decide +kernel
theorem f_22_15 : zft 22 15 = some (3, .ifCond .ne 6) := by decide +kernel
theorem f_22_18 : zft 22 18 = some (2, .bipush (-102)) := by decide +kernel
theorem f_22_20 : zft 22 20 = some (1, .ireturn) := by decide +kernel
theorem f_22_21 : zft 22 21 = some (1, .aload_n 0) := by decide +kernel
theorem f_22_22 : zft 22 22 = some (3, .getfield 33) := by decide +kernel
theorem f_22_25 : zft 22 25 = some (1, .iload_n 1) := by decide +kernel
theorem f_22_26 : zft 22 26 = some (1, .iaload) := by decide +kernel
theorem f_22_27 : zft 22 27 = some (1, .istore_n 3) := by decide +kernel
theorem f_22_28 : zft 22 28 = some (1, .aload_n 0) := by decide +kernel
theorem f_22_29 : zft 22 29 = some (3, .getfield 33) := by decide +kernel
theorem f_22_32 : zft 22 32 = some (1, .iload_n 1) := by decide +kernel
theorem f_22_33 : zft 22 33 = some (1, .iload_n 2) := by decide +kernel
theorem f_22_34 : zft 22 34 = some (1, .iastore) := by decide +kernel
theorem f_22_35 : zft 22 35 = some (1, .iload_n 3) := by decide +kernel
theorem f_22_36 : zft 22 36 = some (3, .invokestatic 91) := by decide +kernel
theorem f_22_39 : zft 22 39 = some (1, .ireturn) := by decide +kernel
theorem f_23_0 : zft 23 0 = some (1, .aload_n 0) := by decide +kernel
theorem f_23_1 : zft 23 1 = some (1, .iload_n 1) := by decide +kernel
theorem f_23_2 : zft 23 2 = some (3, .invokevirtual 63) := by decide +kernel
theorem f_23_5 : zft 23 5 = some (3, .ifCond .ne 6) := by decide +kernel
theorem f_23_8 : zft 23 8 = some (2, .bipush (-101)) := by decide +kernel
theorem f_23_10 : zft 23 10 = some (1, .ireturn) := by decide +kernel
theorem f_23_11 : zft 23 11 = some (1, .iload_n 2) := by decide +kernel
theorem f_23_12 : zft 23 12 = some (3, .invokestatic 88) := by decide +kernel
theorem f_23_15 : zft 23 15 = some (3, .ifCond .ne 6) := by decide +kernel
theorem f_23_18 : zft 23 18 = some (2, .bipush (-102)) := by decide +kernel
theorem f_23_20 : zft 23 20 = some (1, .ireturn) := by decide +kernel
theorem f_23_21 : zft 23 21 = some (1, .aload_n 0) := by decide +kernel
theorem f_23_22 : zft 23 22 = some (3, .getfield 24) := by decide +kernel
theorem f_23_25 : zft 23 25 = some (1, .iload_n 1) := by decide +kernel
theorem f_23_26 : zft 23 26 = some (1, .iaload) := by decide +kernel
theorem f_23_27 : zft 23 27 = some (1, .istore_n 3) := by decide +kernel
theorem f_23_28 : zft 23 28 = some (1, .aload_n 0) := by decide +kernel
theorem f_23_29 : zft 23 29 = some (3, .getfield 24) := by decide +kernel
theorem f_23_32 : zft 23 32 = some (1, .iload_n 1) := by decide +kernel
theorem f_23_33 : zft 23 33 = some (1, .iload_n 2) := by decide +kernel
theorem f_23_34 : zft 23 34 = some (1, .iastore) := by decide +kernel
theorem f_23_35 : zft 23 35 = some (1, .iload_n 3) := by decide +kernel
theorem f_23_36 : zft 23 36 = some (3, .invokestatic 91) := by decide +kernel
theorem f_23_39 : zft 23 39 = some (1, .ireturn) := by decide +kernel
theorem f_24_0 : zft 24 0 = some (1, .aload_n 0) := by decide +kernel
theorem f_24_1 : zft 24 1 = some (1, .iload_n 1) := by decide +kernel
theorem f_24_2 : zft 24 2 = some (3, .invokevirtual 63) := by decide +kernel
theorem f_24_5 : zft 24 5 = some (3, .ifCond .ne 6) := by decide +kernel
theorem f_24_8 : zft 24 8 = some (2, .bipush (-101)) := by decide +kernel
theorem f_24_10 : zft 24 10 = some (1, .ireturn) := by decide +kernel
theorem f_24_11 : zft 24 11 = some (1, .aload_n 0) := by decide +kernel
theorem f_24_12 : zft 24 12 = some (3, .getfield 43) := by decide +kernel
theorem f_24_15 : zft 24 15 = some (1, .istore_n 2) := by decide +kernel
theorem f_24_16 : zft 24 16 = some (1, .aload_n 0) := by decide +kernel
theorem f_24_17 : zft 24 17 = some (1, .iload_n 1) := by decide +kernel
theorem f_24_18 : zft 24 18 = some (3, .putfield 43) := by decide +kernel
theorem f_24_21 : zft 24 21 = some (1, .iload_n 2) := by decide +kernel
theorem f_24_22 : zft 24 22 = some (1, .ireturn) := by decide +kernel
theorem f_25_0 : zft 25 0 = some (1, .aload_n 0) := by decide +kernel
theorem f_25_1 : zft 25 1 = some (1, .iload_n 1) := by decide +kernel
theorem f_25_2 : zft 25 2 = some (3, .invokevirtual 63) := by decide +kernel
theorem f_25_5 : zft 25 5 = some (3, .ifCond .ne 6) := by decide +kernel
theorem f_25_8 : zft 25 8 = some (2, .bipush (-101)) := by decide +kernel
theorem f_25_10 : zft 25 10 = some (1, .ireturn) := by decide +kernel
theorem f_25_11 : zft 25 11 = some (1, .aload_n 0) := by decide +kernel
theorem f_25_12 : zft 25 12 = some (1, .iload_n 1) := by decide +kernel
theorem f_25_13 : zft 25 13 = some (3, .invokevirtual 95) := by decide +kernel
theorem f_25_16 : zft 25 16 = some (1, .iload_n 1) := by decide +kernel
theorem f_25_17 : zft 25 17 = some (1, .iconst 1) := by decide +kernel
theorem f_25_18 : zft 25 18 = some (1, .iadd) := by decide +kernel
theorem f_25_19 : zft 25 19 = some (1, .istore_n 2) := by decide +kernel
theorem f_25_20 : zft 25 20 = some (1, .iload_n 2) := by decide +kernel
theorem f_25_21 : zft 25 21 = some (1, .aload_n 0) := by decide +kernel
theorem f_25_22 : zft 25 22 = some (3, .getfield 36) := by decide +kernel
theorem f_25_25 : zft 25 25 = some (3, .if_icmp .ge 18) := by decide +kernel
theorem f_25_28 : zft 25 28 = some (1, .aload_n 0) := by decide +kernel
theorem f_25_29 : zft 25 29 = some (1, .iload_n 2) := by decide +kernel
theorem f_25_30 : zft 25 30 = some (1, .iconst 1) := by decide +kernel
theorem f_25_31 : zft 25 31 = some (1, .isub) := by decide +kernel
theorem f_25_32 : zft 25 32 = some (1, .aload_n 0) := by decide +kernel
theorem f_25_33 : zft 25 33 = some (1, .iload_n 2) := by decide +kernel
theorem f_25_34 : zft 25 34 = some (3, .invokevirtual 49) := by decide +kernel
theorem f_25_37 : zft 25 37 = some (3, .iinc 2 1) := by decide +kernel
theorem f_25_40 : zft 25 40 = some (3, .goto (-20)) := by decide +kernel
theorem f_25_43 : zft 25 43 = some (1, .aload_n 0) := by decide +kernel
theorem f_25_44 : zft 25 44 = some (1, .dup) := by decide +kernel
theorem f_25_45 : zft 25 45 = some (3, .getfield 36) := by decide +kernel
theorem f_25_48 : zft 25 48 = some (1, .iconst 1) := by decide +kernel
theorem f_25_49 : zft 25 49 = some (1, .isub) := by decide +kernel
theorem f_25_50 : zft 25 50 = some (3, .putfield 36) := by decide +kernel
theorem f_25_53 : zft 25 53 = some (1, .iconst 0) := by decide +kernel
theorem f_25_54 : zft 25 54 = some (1, .istore_n 2) := by decide +kernel
theorem f_25_55 : zft 25 55 = some (1, .iload_n 2) := by decide +kernel
theorem f_25_56 : zft 25 56 = some (1, .aload_n 0) := by decide +kernel
theorem f_25_57 : zft 25 57 = some (3, .getfield 40) := by decide +kernel
theorem f_25_60 : zft 25 60 = some (3, .if_icmp .ge 41) := by decide +kernel
theorem f_25_63 : zft 25 63 = some (1, .aload_n 0) := by decide +kernel
theorem f_25_64 : zft 25 64 = some (3, .getfield 27) := by decide +kernel
theorem f_25_67 : zft 25 67 = some (1, .iload_n 2) := by decide +kernel
theorem f_25_68 : zft 25 68 = some (1, .aload_n 0) := by decide +kernel
theorem f_25_69 : zft 25 69 = some (3, .getfield 27) := by decide +kernel
theorem f_25_72 : zft 25 72 = some (1, .iload_n 2) := by decide +kernel
theorem f_25_73 : zft 25 73 = some (1, .iaload) := by decide +kernel
theorem f_25_74 : zft 25 74 = some (1, .iload_n 1) := by decide +kernel
theorem f_25_75 : zft 25 75 = some (3, .invokestatic 99) := by decide +kernel
theorem f_25_78 : zft 25 78 = some (1, .iastore) := by decide +kernel
theorem f_25_79 : zft 25 79 = some (1, .aload_n 0) := by decide +kernel
theorem f_25_80 : zft 25 80 = some (3, .getfield 30) := by decide +kernel
theorem f_25_83 : zft 25 83 = some (1, .iload_n 2) := by decide +kernel
theorem f_25_84 : zft 25 84 = some (1, .aload_n 0) := by decide +kernel
theorem f_25_85 : zft 25 85 = some (3, .getfield 30) := by decide +kernel
theorem f_25_88 : zft 25 88 = some (1, .iload_n 2) := by decide +kernel
theorem f_25_89 : zft 25 89 = some (1, .iaload) := by decide +kernel
theorem f_25_90 : zft 25 90 = some (1, .iload_n 1) := by decide +kernel
theorem f_25_91 : zft 25 91 = some (3, .invokestatic 99) := by decide +kernel
theorem f_25_94 : zft 25 94 = some (1, .iastore) := by decide +kernel
theorem f_25_95 : zft 25 95 = some (3, .iinc 2 1) := by decide +kernel
theorem f_25_98 : zft 25 98 = some (3, .goto (-43)) := by decide +kernel
theorem f_25_101 : zft 25 101 = some (1, .aload_n 0) := by decide +kernel
theorem f_25_102 : zft 25 102 = some (1, .aload_n 0) := by decide +kernel
theorem f_25_103 : zft 25 103 = some (3, .getfield 43) := by decide +kernel
theorem f_25_106 : zft 25 106 = some (1, .iload_n 1) := by decide +kernel
theorem f_25_107 : zft 25 107 = some (3, .if_icmp .ne 7) := by decide +kernel
theorem f_25_110 : zft 25 110 = some (1, .iconst 0) := by decide +kernel
theorem f_25_111 : zft 25 111 = some (3, .goto 11) := by decide +kernel
theorem f_25_114 : zft 25 114 = some (1, .aload_n 0) := by decide +kernel
theorem f_25_115 : zft 25 115 = some (3, .getfield 43) := by decide +kernel
theorem f_25_118 : zft 25 118 = some (1, .iload_n 1) := by decide +kernel
theorem f_25_119 : zft 25 119 = some (3, .invokestatic 99) := by decide +kernel
theorem f_25_122 : zft 25 122 = some (3, .putfield 43) := by decide +kernel
theorem f_25_125 : zft 25 125 = some (1, .aload_n 0) := by decide +kernel
theorem f_25_126 : zft 25 126 = some (3, .getfield 36) := by decide +kernel
theorem f_25_129 : zft 25 129 = some (1, .ireturn) := by decide +kernel
theorem f_26_0 : zft 26 0 = some (1, .iconst 0) := by decide +kernel
theorem f_26_1 : zft 26 1 = some (1, .istore_n 2) := by decide +kernel
theorem f_26_2 : zft 26 2 = some (1, .iconst 0) := by decide +kernel
theorem f_26_3 : zft 26 3 = some (1, .istore_n 3) := by decide +kernel
theorem f_26_4 : zft 26 4 = some (1, .iload_n 3) := by decide +kernel
theorem f_26_5 : zft 26 5 = some (1, .aload_n 0) := by decide +kernel
theorem f_26_6 : zft 26 6 = some (3, .getfield 40) := by decide +kernel
theorem f_26_9 : zft 26 9 = some (3, .if_icmp .ge 28) := by decide +kernel
theorem f_26_12 : zft 26 12 = some (1, .aload_n 0) := by decide +kernel
theorem f_26_13 : zft 26 13 = some (1, .iload_n 3) := by decide +kernel
theorem f_26_14 : zft 26 14 = some (1, .iload_n 1) := by decide +kernel
theorem f_26_15 : zft 26 15 = some (3, .invokevirtual 102) := by decide +kernel
theorem f_26_18 : zft 26 18 = some (3, .ifCond .ne 13) := by decide +kernel
theorem f_26_21 : zft 26 21 = some (1, .aload_n 0) := by decide +kernel
theorem f_26_22 : zft 26 22 = some (1, .iload_n 2) := by decide +kernel
theorem f_26_23 : zft 26 23 = some (1, .aload_n 0) := by decide +kernel
theorem f_26_24 : zft 26 24 = some (1, .iload_n 3) := by decide +kernel
theorem f_26_25 : zft 26 25 = some (3, .invokevirtual 53) := by decide +kernel
theorem f_26_28 : zft 26 28 = some (3, .iinc 2 1) := by decide +kernel
theorem f_26_31 : zft 26 31 = some (3, .iinc 3 1) := by decide +kernel
theorem f_26_34 : zft 26 34 = some (3, .goto (-30)) := by decide +kernel
theorem f_26_37 : zft 26 37 = some (1, .aload_n 0) := by decide +kernel
theorem f_26_38 : zft 26 38 = some (1, .iload_n 2) := by decide +kernel
theorem f_26_39 : zft 26 39 = some (3, .putfield 40) := by decide +kernel
theorem f_26_42 : zft 26 42 = some (1, .return_) := by decide +kernel
theorem f_27_0 : zft 27 0 = some (1, .iload_n 0) := by decide +kernel
theorem f_27_1 : zft 27 1 = some (1, .iload_n 1) := by decide +kernel
theorem f_27_2 : zft 27 2 = some (3, .if_icmp .le 9) := by decide +kernel
theorem f_27_5 : zft 27 5 = some (1, .iload_n 0) := by decide +kernel
theorem f_27_6 : zft 27 6 = some (1, .iconst 1) := by decide +kernel
theorem f_27_7 : zft 27 7 = some (1, .isub) := by decide +kernel
theorem f_27_8 : zft 27 8 = some (3, .goto 4) := by decide +kernel
theorem f_27_11 : zft 27 11 = some (1, .iload_n 0) := by decide +kernel
theorem f_27_12 : zft 27 12 = some (1, .ireturn) := by decide +kernel
theorem f_28_0 : zft 28 0 = some (1, .aload_n 0) := by decide +kernel
theorem f_28_1 : zft 28 1 = some (1, .iload_n 1) := by decide +kernel
theorem f_28_2 : zft 28 2 = some (3, .invokevirtual 85) := by decide +kernel
theorem f_28_5 : zft 28 5 = some (3, .ifCond .ne 6) := by decide +kernel
theorem f_28_8 : zft 28 8 = some (2, .bipush (-101)) := by decide +kernel
theorem f_28_10 : zft 28 10 = some (1, .ireturn) := by decide +kernel
theorem f_28_11 : zft 28 11 = some (1, .iload_n 1) := by decide +kernel
theorem f_28_12 : zft 28 12 = some (1, .iconst 1) := by decide +kernel
theorem f_28_13 : zft 28 13 = some (1, .iadd) := by decide +kernel
theorem f_28_14 : zft 28 14 = some (1, .istore_n 2) := by decide +kernel
theorem f_28_15 : zft 28 15 = some (1, .iload_n 2) := by decide +kernel
theorem f_28_16 : zft 28 16 = some (1, .aload_n 0) := by decide +kernel
theorem f_28_17 : zft 28 17 = some (3, .getfield 40) := by decide +kernel
theorem f_28_20 : zft 28 20 = some (3, .if_icmp .ge 18) := by decide +kernel
theorem f_28_23 : zft 28 23 = some (1, .aload_n 0) := by decide +kernel
theorem f_28_24 : zft 28 24 = some (1, .iload_n 2) := by decide +kernel
theorem f_28_25 : zft 28 25 = some (1, .iconst 1) := by decide +kernel
theorem f_28_26 : zft 28 26 = some (1, .isub) := by decide +kernel
theorem f_28_27 : zft 28 27 = some (1, .aload_n 0) := by decide +kernel
theorem f_28_28 : zft 28 28 = some (1, .iload_n 2) := by decide +kernel
theorem f_28_29 : zft 28 29 = some (3, .invokevirtual 53) := by decide +kernel
theorem f_28_32 : zft 28 32 = some (3, .iinc 2 1) := by decide +kernel
theorem f_28_35 : zft 28 35 = some (3, .goto (-20)) := by decide +kernel
theorem f_28_38 : zft 28 38 = some (1, .aload_n 0) := by decide +kernel
theorem f_28_39 : zft 28 39 = some (1, .dup) := by decide +kernel
theorem f_28_40 : zft 28 40 = some (3, .getfield 40) := by decide +kernel
theorem f_28_43 : zft 28 43 = some (1, .iconst 1) := by decide +kernel
theorem f_28_44 : zft 28 44 = some (1, .isub) := by decide +kernel
theorem f_28_45 : zft 28 45 = some (3, .putfield 40) := by decide +kernel
theorem f_28_48 : zft 28 48 = some (1, .aload_n 0) := by decide +kernel
theorem f_28_49 : zft 28 49 = some (3, .getfield 40) := by decide +kernel
theorem f_28_52 : zft 28 52 = some (1, .ireturn) := by decide +kernel
theorem f_29_0 : zft 29 0 = some (1, .aload_n 0) := by decide +kernel
theorem f_29_1 : zft 29 1 = some (3, .getfield 27) := by decide +kernel
theorem f_29_4 : zft 29 4 = some (1, .iload_n 1) := by decide +kernel
theorem f_29_5 : zft 29 5 = some (1, .iaload) := by decide +kernel
theorem f_29_6 : zft 29 6 = some (1, .iload_n 2) := by decide +kernel
theorem f_29_7 : zft 29 7 = some (3, .if_icmp .eq 13) := by decide +kernel
theorem f_29_10 : zft 29 10 = some (1, .aload_n 0) := by decide +kernel
theorem f_29_11 : zft 29 11 = some (3, .getfield 30) := by decide +kernel
theorem f_29_14 : zft 29 14 = some (1, .iload_n 1) := by decide +kernel
theorem f_29_15 : zft 29 15 = some (1, .iaload) := by decide +kernel
theorem f_29_16 : zft 29 16 = some (1, .iload_n 2) := by decide +kernel
theorem f_29_17 : zft 29 17 = some (3, .if_icmp .ne 7) := by decide +kernel
theorem f_29_20 : zft 29 20 = some (1, .iconst 1) := by decide +kernel
theorem f_29_21 : zft 29 21 = some (3, .goto 4) := by decide +kernel
theorem f_29_24 : zft 29 24 = some (1, .iconst 0) := by decide +kernel
theorem f_29_25 : zft 29 25 = some (1, .ireturn) := by decide +kernel
theorem f_30_0 : zft 30 0 = some (1, .iconst 0) := by decide +kernel
theorem f_30_1 : zft 30 1 = some (1, .istore_n 3) := by decide +kernel
theorem f_30_2 : zft 30 2 = some (1, .iload_n 3) := by decide +kernel
theorem f_30_3 : zft 30 3 = some (1, .aload_n 0) := by decide +kernel
theorem f_30_4 : zft 30 4 = some (3, .getfield 40) := by decide +kernel
theorem f_30_7 : zft 30 7 = some (3, .if_icmp .ge 34) := by decide +kernel
theorem f_30_10 : zft 30 10 = some (1, .iload_n 1) := by decide +kernel
theorem f_30_11 : zft 30 11 = some (1, .iload_n 2) := by decide +kernel
theorem f_30_12 : zft 30 12 = some (3, .if_icmp .eq 23) := by decide +kernel
theorem f_30_15 : zft 30 15 = some (1, .aload_n 0) := by decide +kernel
theorem f_30_16 : zft 30 16 = some (1, .iload_n 3) := by decide +kernel
theorem f_30_17 : zft 30 17 = some (1, .iload_n 1) := by decide +kernel
theorem f_30_18 : zft 30 18 = some (3, .invokevirtual 102) := by decide +kernel
theorem f_30_21 : zft 30 21 = some (3, .ifCond .eq 14) := by decide +kernel
theorem f_30_24 : zft 30 24 = some (1, .aload_n 0) := by decide +kernel
theorem f_30_25 : zft 30 25 = some (1, .iload_n 3) := by decide +kernel
theorem f_30_26 : zft 30 26 = some (1, .iload_n 2) := by decide +kernel
theorem f_30_27 : zft 30 27 = some (3, .invokevirtual 102) := by decide +kernel
theorem f_30_30 : zft 30 30 = some (3, .ifCond .eq 5) := by decide +kernel
theorem f_30_33 : zft 30 33 = some (1, .iload_n 3) := by decide +kernel
theorem f_30_34 : zft 30 34 = some (1, .ireturn) := by decide +kernel
theorem f_30_35 : zft 30 35 = some (3, .iinc 3 1) := by decide +kernel
theorem f_30_38 : zft 30 38 = some (3, .goto (-36)) := by decide +kernel
theorem f_30_41 : zft 30 41 = some (1, .iconst (-1)) := by decide +kernel
theorem f_30_42 : zft 30 42 = some (1, .ireturn) := by decide +kernel
theorem f_31_0 : zft 31 0 = some (1, .iconst 0) := by decide +kernel
theorem f_31_1 : zft 31 1 = some (1, .istore_n 2) := by decide +kernel
theorem f_31_2 : zft 31 2 = some (1, .iconst 0) := by decide +kernel
theorem f_31_3 : zft 31 3 = some (1, .istore_n 3) := by decide +kernel
theorem f_31_4 : zft 31 4 = some (1, .iload_n 3) := by decide +kernel
theorem f_31_5 : zft 31 5 = some (1, .aload_n 0) := by decide +kernel
theorem f_31_6 : zft 31 6 = some (3, .getfield 40) := by decide +kernel
theorem f_31_9 : zft 31 9 = some (3, .if_icmp .ge 21) := by decide +kernel
theorem f_31_12 : zft 31 12 = some (1, .aload_n 0) := by decide +kernel
theorem f_31_13 : zft 31 13 = some (1, .iload_n 3) := by decide +kernel
theorem f_31_14 : zft 31 14 = some (1, .iload_n 1) := by decide +kernel
theorem f_31_15 : zft 31 15 = some (3, .invokevirtual 102) := by decide +kernel
theorem f_31_18 : zft 31 18 = some (3, .ifCond .eq 6) := by decide +kernel
theorem f_31_21 : zft 31 21 = some (3, .iinc 2 1) := by decide +kernel
theorem f_31_24 : zft 31 24 = some (3, .iinc 3 1) := by decide +kernel
theorem f_31_27 : zft 31 27 = some (3, .goto (-23)) := by decide +kernel
theorem f_31_30 : zft 31 30 = some (1, .iload_n 2) := by decide +kernel
theorem f_31_31 : zft 31 31 = some (1, .ireturn) := by decide +kernel
theorem f_32_0 : zft 32 0 = some (1, .aload_n 0) := by decide +kernel
theorem f_32_1 : zft 32 1 = some (3, .getfield 9) := by decide +kernel
theorem f_32_4 : zft 32 4 = some (1, .iload_n 1) := by decide +kernel
theorem f_32_5 : zft 32 5 = some (1, .iaload) := by decide +kernel
theorem f_32_6 : zft 32 6 = some (1, .aload_n 0) := by decide +kernel
theorem f_32_7 : zft 32 7 = some (3, .getfield 18) := by decide +kernel
theorem f_32_10 : zft 32 10 = some (1, .iload_n 1) := by decide +kernel
theorem f_32_11 : zft 32 11 = some (1, .iaload) := by decide +kernel
theorem f_32_12 : zft 32 12 = some (1, .iconst 2) := by decide +kernel
theorem f_32_13 : zft 32 13 = some (1, .idiv) := by decide +kernel
theorem f_32_14 : zft 32 14 = some (1, .iadd) := by decide +kernel
theorem f_32_15 : zft 32 15 = some (1, .ireturn) := by decide +kernel
theorem f_33_0 : zft 33 0 = some (1, .aload_n 0) := by decide +kernel
theorem f_33_1 : zft 33 1 = some (3, .getfield 15) := by decide +kernel
theorem f_33_4 : zft 33 4 = some (1, .iload_n 1) := by decide +kernel
theorem f_33_5 : zft 33 5 = some (1, .iaload) := by decide +kernel
theorem f_33_6 : zft 33 6 = some (1, .aload_n 0) := by decide +kernel
theorem f_33_7 : zft 33 7 = some (3, .getfield 21) := by decide +kernel
theorem f_33_10 : zft 33 10 = some (1, .iload_n 1) := by decide +kernel
theorem f_33_11 : zft 33 11 = some (1, .iaload) := by decide +kernel
theorem f_33_12 : zft 33 12 = some (1, .iconst 2) := by decide +kernel
theorem f_33_13 : zft 33 13 = some (1, .idiv) := by decide +kernel
theorem f_33_14 : zft 33 14 = some (1, .iadd) := by decide +kernel
theorem f_33_15 : zft 33 15 = some (1, .ireturn) := by decide +kernel
theorem f_34_0 : zft 34 0 = some (1, .aload_n 0) := by decide +kernel
theorem f_34_1 : zft 34 1 = some (1, .iload_n 1) := by decide +kernel
theorem f_34_2 : zft 34 2 = some (3, .invokevirtual 106) := by decide +kernel
theorem f_34_5 : zft 34 5 = some (1, .aload_n 0) := by decide +kernel
theorem f_34_6 : zft 34 6 = some (1, .iload_n 2) := by decide +kernel
theorem f_34_7 : zft 34 7 = some (3, .invokevirtual 106) := by decide +kernel
theorem f_34_10 : zft 34 10 = some (1, .isub) := by decide +kernel
theorem f_34_11 : zft 34 11 = some (3, .invokestatic 109) := by decide +kernel
theorem f_34_14 : zft 34 14 = some (1, .aload_n 0) := by decide +kernel
theorem f_34_15 : zft 34 15 = some (1, .iload_n 1) := by decide +kernel
theorem f_34_16 : zft 34 16 = some (3, .invokevirtual 112) := by decide +kernel
theorem f_34_19 : zft 34 19 = some (1, .aload_n 0) := by decide +kernel
theorem f_34_20 : zft 34 20 = some (1, .iload_n 2) := by decide +kernel
theorem f_34_21 : zft 34 21 = some (3, .invokevirtual 112) := by decide +kernel
theorem f_34_24 : zft 34 24 = some (1, .isub) := by decide +kernel
theorem f_34_25 : zft 34 25 = some (3, .invokestatic 109) := by decide +kernel
theorem f_34_28 : zft 34 28 = some (1, .iadd) := by decide +kernel
theorem f_34_29 : zft 34 29 = some (1, .ireturn) := by decide +kernel
theorem f_35_0 : zft 35 0 = some (1, .aload_n 0) := by decide +kernel
theorem f_35_1 : zft 35 1 = some (3, .getfield 33) := by decide +kernel
theorem f_35_4 : zft 35 4 = some (1, .iload_n 1) := by decide +kernel
theorem f_35_5 : zft 35 5 = some (1, .iaload) := by decide +kernel
theorem f_35_6 : zft 35 6 = some (1, .iconst (-1)) := by decide +kernel
theorem f_35_7 : zft 35 7 = some (3, .if_icmp .eq 16) := by decide +kernel
theorem f_35_10 : zft 35 10 = some (1, .iload_n 2) := by decide +kernel
theorem f_35_11 : zft 35 11 = some (1, .aload_n 0) := by decide +kernel
theorem f_35_12 : zft 35 12 = some (3, .getfield 33) := by decide +kernel
theorem f_35_15 : zft 35 15 = some (1, .iload_n 1) := by decide +kernel
theorem f_35_16 : zft 35 16 = some (1, .iaload) := by decide +kernel
theorem f_35_17 : zft 35 17 = some (3, .invokestatic 115) := by decide +kernel
theorem f_35_20 : zft 35 20 = some (3, .ifCond .eq 7) := by decide +kernel
theorem f_35_23 : zft 35 23 = some (1, .iconst 1) := by decide +kernel
theorem f_35_24 : zft 35 24 = some (3, .goto 4) := by decide +kernel
theorem f_35_27 : zft 35 27 = some (1, .iconst 0) := by decide +kernel
theorem f_35_28 : zft 35 28 = some (1, .ireturn) := by decide +kernel
theorem f_36_0 : zft 36 0 = some (1, .aload_n 0) := by decide +kernel
theorem f_36_1 : zft 36 1 = some (3, .getfield 24) := by decide +kernel
theorem f_36_4 : zft 36 4 = some (1, .iload_n 1) := by decide +kernel
theorem f_36_5 : zft 36 5 = some (1, .iaload) := by decide +kernel
theorem f_36_6 : zft 36 6 = some (1, .iconst (-1)) := by decide +kernel
theorem f_36_7 : zft 36 7 = some (3, .if_icmp .ne 7) := by decide +kernel
theorem f_36_10 : zft 36 10 = some (1, .iconst 0) := by decide +kernel
theorem f_36_11 : zft 36 11 = some (3, .goto 11) := by decide +kernel
theorem f_36_14 : zft 36 14 = some (1, .iconst 1) := by decide +kernel
theorem f_36_15 : zft 36 15 = some (1, .aload_n 0) := by decide +kernel
theorem f_36_16 : zft 36 16 = some (3, .getfield 24) := by decide +kernel
theorem f_36_19 : zft 36 19 = some (1, .iload_n 1) := by decide +kernel
theorem f_36_20 : zft 36 20 = some (1, .iaload) := by decide +kernel
theorem f_36_21 : zft 36 21 = some (1, .ishl) := by decide +kernel
theorem f_36_22 : zft 36 22 = some (1, .ireturn) := by decide +kernel
theorem f_37_0 : zft 37 0 = some (1, .iconst 0) := by decide +kernel
theorem f_37_1 : zft 37 1 = some (1, .istore_n 1) := by decide +kernel
theorem f_37_2 : zft 37 2 = some (1, .iconst 0) := by decide +kernel
theorem f_37_3 : zft 37 3 = some (1, .istore_n 2) := by decide +kernel
theorem f_37_4 : zft 37 4 = some (1, .iload_n 2) := by decide +kernel
theorem f_37_5 : zft 37 5 = some (1, .aload_n 0) := by decide +kernel
theorem f_37_6 : zft 37 6 = some (3, .getfield 40) := by decide +kernel
theorem f_37_9 : zft 37 9 = some (3, .if_icmp .ge 22) := by decide +kernel
theorem f_37_12 : zft 37 12 = some (1, .aload_n 0) := by decide +kernel
theorem f_37_13 : zft 37 13 = some (3, .getfield 33) := by decide +kernel
theorem f_37_16 : zft 37 16 = some (1, .iload_n 2) := by decide +kernel
theorem f_37_17 : zft 37 17 = some (1, .iaload) := by decide +kernel
theorem f_37_18 : zft 37 18 = some (1, .iconst (-1)) := by decide +kernel
theorem f_37_19 : zft 37 19 = some (3, .if_icmp .eq 6) := by decide +kernel
theorem f_37_22 : zft 37 22 = some (3, .iinc 1 1) := by decide +kernel
theorem f_37_25 : zft 37 25 = some (3, .iinc 2 1) := by decide +kernel
theorem f_37_28 : zft 37 28 = some (3, .goto (-24)) := by decide +kernel
theorem f_37_31 : zft 37 31 = some (1, .iload_n 1) := by decide +kernel
theorem f_37_32 : zft 37 32 = some (1, .ireturn) := by decide +kernel
theorem f_38_0 : zft 38 0 = some (1, .iconst 0) := by decide +kernel
theorem f_38_1 : zft 38 1 = some (1, .istore_n 1) := by decide +kernel
theorem f_38_2 : zft 38 2 = some (1, .iconst 0) := by decide +kernel
theorem f_38_3 : zft 38 3 = some (1, .istore_n 2) := by decide +kernel
theorem f_38_4 : zft 38 4 = some (1, .iload_n 2) := by decide +kernel
theorem f_38_5 : zft 38 5 = some (1, .aload_n 0) := by decide +kernel
theorem f_38_6 : zft 38 6 = some (3, .getfield 36) := by decide +kernel
theorem f_38_9 : zft 38 9 = some (3, .if_icmp .ge 22) := by decide +kernel
theorem f_38_12 : zft 38 12 = some (1, .aload_n 0) := by decide +kernel
theorem f_38_13 : zft 38 13 = some (3, .getfield 24) := by decide +kernel
theorem f_38_16 : zft 38 16 = some (1, .iload_n 2) := by decide +kernel
theorem f_38_17 : zft 38 17 = some (1, .iaload) := by decide +kernel
theorem f_38_18 : zft 38 18 = some (1, .iconst (-1)) := by decide +kernel
theorem f_38_19 : zft 38 19 = some (3, .if_icmp .eq 6) := by decide +kernel
theorem f_38_22 : zft 38 22 = some (3, .iinc 1 1) := by decide +kernel
theorem f_38_25 : zft 38 25 = some (3, .iinc 2 1) := by decide +kernel
theorem f_38_28 : zft 38 28 = some (3, .goto (-24)) := by decide +kernel
theorem f_38_31 : zft 38 31 = some (1, .iload_n 1) := by decide +kernel
theorem f_38_32 : zft 38 32 = some (1, .ireturn) := by decide +kernel
theorem f_39_0 : zft 39 0 = some (1, .aload_n 0) := by decide +kernel
theorem f_39_1 : zft 39 1 = some (3, .getfield 18) := by decide +kernel
theorem f_39_4 : zft 39 4 = some (1, .iload_n 1) := by decide +kernel
theorem f_39_5 : zft 39 5 = some (1, .iaload) := by decide +kernel
theorem f_39_6 : zft 39 6 = some (1, .aload_n 0) := by decide +kernel
theorem f_39_7 : zft 39 7 = some (3, .getfield 21) := by decide +kernel
theorem f_39_10 : zft 39 10 = some (1, .iload_n 1) := by decide +kernel
theorem f_39_11 : zft 39 11 = some (1, .iaload) := by decide +kernel
theorem f_39_12 : zft 39 12 = some (1, .imul) := by decide +kernel
theorem f_39_13 : zft 39 13 = some (1, .ireturn) := by decide +kernel
theorem f_40_0 : zft 40 0 = some (1, .iconst 0) := by decide +kernel
theorem f_40_1 : zft 40 1 = some (1, .istore_n 1) := by decide +kernel
theorem f_40_2 : zft 40 2 = some (1, .iconst 0) := by decide +kernel
theorem f_40_3 : zft 40 3 = some (1, .istore_n 2) := by decide +kernel
theorem f_40_4 : zft 40 4 = some (1, .iload_n 2) := by decide +kernel
theorem f_40_5 : zft 40 5 = some (1, .aload_n 0) := by decide +kernel
theorem f_40_6 : zft 40 6 = some (3, .getfield 36) := by decide +kernel
theorem f_40_9 : zft 40 9 = some (3, .if_icmp .ge 17) := by decide +kernel
theorem f_40_12 : zft 40 12 = some (1, .iload_n 1) := by decide +kernel
theorem f_40_13 : zft 40 13 = some (1, .aload_n 0) := by decide +kernel
theorem f_40_14 : zft 40 14 = some (1, .iload_n 2) := by decide +kernel
theorem f_40_15 : zft 40 15 = some (3, .invokevirtual 118) := by decide +kernel
theorem f_40_18 : zft 40 18 = some (1, .iadd) := by decide +kernel
theorem f_40_19 : zft 40 19 = some (1, .istore_n 1) := by decide +kernel
theorem f_40_20 : zft 40 20 = some (3, .iinc 2 1) := by decide +kernel
theorem f_40_23 : zft 40 23 = some (3, .goto (-19)) := by decide +kernel
theorem f_40_26 : zft 40 26 = some (1, .iload_n 1) := by decide +kernel
theorem f_40_27 : zft 40 27 = some (1, .ireturn) := by decide +kernel
theorem f_41_0 : zft 41 0 = some (1, .iconst 0) := by decide +kernel
theorem f_41_1 : zft 41 1 = some (1, .istore_n 1) := by decide +kernel
theorem f_41_2 : zft 41 2 = some (1, .iconst 0) := by decide +kernel
theorem f_41_3 : zft 41 3 = some (1, .istore_n 2) := by decide +kernel
theorem f_41_4 : zft 41 4 = some (1, .iload_n 2) := by decide +kernel
theorem f_41_5 : zft 41 5 = some (1, .aload_n 0) := by decide +kernel
theorem f_41_6 : zft 41 6 = some (3, .getfield 36) := by decide +kernel
theorem f_41_9 : zft 41 9 = some (3, .if_icmp .ge 21) := by decide +kernel
theorem f_41_12 : zft 41 12 = some (1, .aload_n 0) := by decide +kernel
theorem f_41_13 : zft 41 13 = some (1, .iload_n 2) := by decide +kernel
theorem f_41_14 : zft 41 14 = some (3, .invokevirtual 121) := by decide +kernel
theorem f_41_17 : zft 41 17 = some (1, .iconst 1) := by decide +kernel
theorem f_41_18 : zft 41 18 = some (3, .if_icmp .ne 6) := by decide +kernel
theorem f_41_21 : zft 41 21 = some (3, .iinc 1 1) := by decide +kernel
theorem f_41_24 : zft 41 24 = some (3, .iinc 2 1) := by decide +kernel
theorem f_41_27 : zft 41 27 = some (3, .goto (-23)) := by decide +kernel
theorem f_41_30 : zft 41 30 = some (1, .iload_n 1) := by decide +kernel
theorem f_41_31 : zft 41 31 = some (1, .ireturn) := by decide +kernel
theorem f_42_0 : zft 42 0 = some (1, .aload_n 0) := by decide +kernel
theorem f_42_1 : zft 42 1 = some (3, .invokespecial 3) := by decide +kernel
theorem f_42_4 : zft 42 4 = some (1, .aload_n 0) := by decide +kernel
theorem f_42_5 : zft 42 5 = some (2, .bipush 12) := by decide +kernel
theorem f_42_7 : zft 42 7 = some (2, .newarray .int) := by decide +kernel
theorem f_42_9 : zft 42 9 = some (3, .putfield 9) := by decide +kernel
theorem f_42_12 : zft 42 12 = some (1, .aload_n 0) := by decide +kernel
theorem f_42_13 : zft 42 13 = some (2, .bipush 12) := by decide +kernel
theorem f_42_15 : zft 42 15 = some (2, .newarray .int) := by decide +kernel
theorem f_42_17 : zft 42 17 = some (3, .putfield 15) := by decide +kernel
theorem f_42_20 : zft 42 20 = some (1, .aload_n 0) := by decide +kernel
theorem f_42_21 : zft 42 21 = some (2, .bipush 12) := by decide +kernel
theorem f_42_23 : zft 42 23 = some (2, .newarray .int) := by decide +kernel
theorem f_42_25 : zft 42 25 = some (3, .putfield 18) := by decide +kernel
theorem f_42_28 : zft 42 28 = some (1, .aload_n 0) := by decide +kernel
theorem f_42_29 : zft 42 29 = some (2, .bipush 12) := by decide +kernel
theorem f_42_31 : zft 42 31 = some (2, .newarray .int) := by decide +kernel
theorem f_42_33 : zft 42 33 = some (3, .putfield 21) := by decide +kernel
theorem f_42_36 : zft 42 36 = some (1, .aload_n 0) := by decide +kernel
theorem f_42_37 : zft 42 37 = some (1, .iconst 0) := by decide +kernel
theorem f_42_38 : zft 42 38 = some (3, .putfield 24) := by decide +kernel
theorem f_42_41 : zft 42 41 = some (1, .return_) := by decide +kernel
theorem f_43_0 : zft 43 0 = some (1, .aload_n 1) := by decide +kernel
theorem f_43_1 : zft 43 1 = some (1, .aload_n 1) := by decide +kernel
theorem f_43_2 : zft 43 2 = some (3, .getfield 28) := by decide +kernel
theorem f_43_5 : zft 43 5 = some (1, .aload_n 0) := by decide +kernel
theorem f_43_6 : zft 43 6 = some (3, .getfield 9) := by decide +kernel
theorem f_43_9 : zft 43 9 = some (3, .invokestatic 33) := by decide +kernel
theorem f_43_12 : zft 43 12 = some (1, .iconst 0) := by decide +kernel
theorem f_43_13 : zft 43 13 = some (1, .istore_n 2) := by decide +kernel
theorem f_43_14 : zft 43 14 = some (1, .iload_n 2) := by decide +kernel
theorem f_43_15 : zft 43 15 = some (1, .aload_n 1) := by decide +kernel
theorem f_43_16 : zft 43 16 = some (3, .getfield 39) := by decide +kernel
theorem f_43_19 : zft 43 19 = some (3, .if_icmp .ge 26) := by decide +kernel
theorem f_43_22 : zft 43 22 = some (1, .aload_n 0) := by decide +kernel
theorem f_43_23 : zft 43 23 = some (3, .getfield 15) := by decide +kernel
theorem f_43_26 : zft 43 26 = some (1, .iload_n 2) := by decide +kernel
theorem f_43_27 : zft 43 27 = some (1, .aload_n 1) := by decide +kernel
theorem f_43_28 : zft 43 28 = some (1, .iload_n 2) := by decide +kernel
theorem f_43_29 : zft 43 29 = some (1, .aload_n 0) := by decide +kernel
theorem f_43_30 : zft 43 30 = some (3, .getfield 9) := by decide +kernel
theorem f_43_33 : zft 43 33 = some (1, .iload_n 2) := by decide +kernel
theorem f_43_34 : zft 43 34 = some (1, .iaload) := by decide +kernel
theorem f_43_35 : zft 43 35 = some (3, .invokestatic 42) := by decide +kernel
theorem f_43_38 : zft 43 38 = some (1, .iastore) := by decide +kernel
theorem f_43_39 : zft 43 39 = some (3, .iinc 2 1) := by decide +kernel
theorem f_43_42 : zft 43 42 = some (3, .goto (-28)) := by decide +kernel
theorem f_43_45 : zft 43 45 = some (1, .aload_n 0) := by decide +kernel
theorem f_43_46 : zft 43 46 = some (1, .iconst 0) := by decide +kernel
theorem f_43_47 : zft 43 47 = some (3, .putfield 24) := by decide +kernel
theorem f_43_50 : zft 43 50 = some (1, .iconst 0) := by decide +kernel
theorem f_43_51 : zft 43 51 = some (1, .istore_n 2) := by decide +kernel
theorem f_43_52 : zft 43 52 = some (1, .aload_n 1) := by decide +kernel
theorem f_43_53 : zft 43 53 = some (3, .getfield 39) := by decide +kernel
theorem f_43_56 : zft 43 56 = some (3, .ifCond .ne 7) := by decide +kernel
theorem f_43_59 : zft 43 59 = some (1, .iconst (-1)) := by decide +kernel
theorem f_43_60 : zft 43 60 = some (3, .goto 7) := by decide +kernel
theorem f_43_63 : zft 43 63 = some (1, .aload_n 1) := by decide +kernel
theorem f_43_64 : zft 43 64 = some (3, .getfield 28) := by decide +kernel
theorem f_43_67 : zft 43 67 = some (1, .istore_n 3) := by decide +kernel
theorem f_43_68 : zft 43 68 = some (1, .iconst 0) := by decide +kernel
theorem f_43_69 : zft 43 69 = some (2, .istore 4) := by decide +kernel
theorem f_43_71 : zft 43 71 = some (2, .iload 4) := by decide +kernel
theorem f_43_73 : zft 43 73 = some (1, .aload_n 1) := by decide +kernel
theorem f_43_74 : zft 43 74 = some (3, .getfield 39) := by decide +kernel
theorem f_43_77 : zft 43 77 = some (3, .if_icmp .ge 45) := by decide +kernel
theorem f_43_80 : zft 43 80 = some (1, .iload_n 3) := by decide +kernel
theorem f_43_81 : zft 43 81 = some (1, .iconst (-1)) := by decide +kernel
theorem f_43_82 : zft 43 82 = some (3, .if_icmp .eq 40) := by decide +kernel
theorem f_43_85 : zft 43 85 = some (1, .aload_n 0) := by decide +kernel
theorem f_43_86 : zft 43 86 = some (3, .getfield 18) := by decide +kernel
theorem f_43_89 : zft 43 89 = some (2, .iload 4) := by decide +kernel
theorem f_43_91 : zft 43 91 = some (1, .iload_n 3) := by decide +kernel
theorem f_43_92 : zft 43 92 = some (1, .iastore) := by decide +kernel
theorem f_43_93 : zft 43 93 = some (1, .aload_n 0) := by decide +kernel
theorem f_43_94 : zft 43 94 = some (1, .dup) := by decide +kernel
theorem f_43_95 : zft 43 95 = some (3, .getfield 24) := by decide +kernel
theorem f_43_98 : zft 43 98 = some (1, .iconst 1) := by decide +kernel
theorem f_43_99 : zft 43 99 = some (1, .iadd) := by decide +kernel
theorem f_43_100 : zft 43 100 = some (3, .putfield 24) := by decide +kernel
theorem f_43_103 : zft 43 103 = some (1, .iload_n 2) := by decide +kernel
theorem f_43_104 : zft 43 104 = some (1, .iconst 1) := by decide +kernel
theorem f_43_105 : zft 43 105 = some (1, .iload_n 3) := by decide +kernel
theorem f_43_106 : zft 43 106 = some (1, .ishl) := by decide +kernel
theorem f_43_107 : zft 43 107 = some (1, .ior) := by decide +kernel
theorem f_43_108 : zft 43 108 = some (1, .istore_n 2) := by decide +kernel
theorem f_43_109 : zft 43 109 = some (1, .aload_n 0) := by decide +kernel
theorem f_43_110 : zft 43 110 = some (1, .aload_n 1) := by decide +kernel
theorem f_43_111 : zft 43 111 = some (1, .iload_n 2) := by decide +kernel
theorem f_43_112 : zft 43 112 = some (3, .invokevirtual 46) := by decide +kernel
theorem f_43_115 : zft 43 115 = some (1, .istore_n 3) := by decide +kernel
theorem f_43_116 : zft 43 116 = some (3, .iinc 4 1) := by decide +kernel
theorem f_43_119 : zft 43 119 = some (3, .goto (-48)) := by decide +kernel
theorem f_43_122 : zft 43 122 = some (1, .return_) := by decide +kernel
theorem f_44_0 : zft 44 0 = some (1, .iload_n 2) := by decide +kernel
theorem f_44_1 : zft 44 1 = some (1, .iconst (-1)) := by decide +kernel
theorem f_44_2 : zft 44 2 = some (3, .if_icmp .ne 7) := by decide +kernel
theorem f_44_5 : zft 44 5 = some (3, .sipush 500) := by decide +kernel
theorem f_44_8 : zft 44 8 = some (1, .ireturn) := by decide +kernel
theorem f_44_9 : zft 44 9 = some (1, .aload_n 0) := by decide +kernel
theorem f_44_10 : zft 44 10 = some (3, .getfield 50) := by decide +kernel
theorem f_44_13 : zft 44 13 = some (27, .lookupswitch 44 #[(0, 27), (1, 32)]) := by decide +kernel
theorem f_44_40 : zft 44 40 = some (2, .bipush 10) := by decide +kernel
theorem f_44_42 : zft 44 42 = some (1, .iload_n 2) := by decide +kernel
theorem f_44_43 : zft 44 43 = some (1, .imul) := by decide +kernel
theorem f_44_44 : zft 44 44 = some (1, .ireturn) := by decide +kernel
theorem f_44_45 : zft 44 45 = some (1, .iload_n 2) := by decide +kernel
theorem f_44_46 : zft 44 46 = some (1, .iload_n 2) := by decide +kernel
theorem f_44_47 : zft 44 47 = some (1, .imul) := by decide +kernel
theorem f_44_48 : zft 44 48 = some (1, .aload_n 0) := by decide +kernel
theorem f_44_49 : zft 44 49 = some (1, .iload_n 1) := by decide +kernel
theorem f_44_50 : zft 44 50 = some (3, .invokevirtual 53) := by decide +kernel
theorem f_44_53 : zft 44 53 = some (1, .iconst 4) := by decide +kernel
theorem f_44_54 : zft 44 54 = some (1, .idiv) := by decide +kernel
theorem f_44_55 : zft 44 55 = some (1, .iadd) := by decide +kernel
theorem f_44_56 : zft 44 56 = some (1, .ireturn) := by decide +kernel
theorem f_44_57 : zft 44 57 = some (2, .bipush 100) := by decide +kernel
theorem f_44_59 : zft 44 59 = some (2, .bipush 10) := by decide +kernel
theorem f_44_61 : zft 44 61 = some (1, .aload_n 0) := by decide +kernel
theorem f_44_62 : zft 44 62 = some (1, .iload_n 1) := by decide +kernel
theorem f_44_63 : zft 44 63 = some (3, .invokevirtual 57) := by decide +kernel
theorem f_44_66 : zft 44 66 = some (1, .imul) := by decide +kernel
theorem f_44_67 : zft 44 67 = some (1, .isub) := by decide +kernel
theorem f_44_68 : zft 44 68 = some (1, .iload_n 2) := by decide +kernel
theorem f_44_69 : zft 44 69 = some (1, .iadd) := by decide +kernel
theorem f_44_70 : zft 44 70 = some (1, .ireturn) := by decide +kernel
theorem f_45_0 : zft 45 0 = some (1, .aload_n 1) := by decide +kernel
theorem f_45_1 : zft 45 1 = some (1, .iload_n 2) := by decide +kernel
theorem f_45_2 : zft 45 2 = some (3, .invokestatic 60) := by decide +kernel
theorem f_45_5 : zft 45 5 = some (1, .istore_n 3) := by decide +kernel
theorem f_45_6 : zft 45 6 = some (1, .iconst (-1)) := by decide +kernel
theorem f_45_7 : zft 45 7 = some (2, .istore 4) := by decide +kernel
theorem f_45_9 : zft 45 9 = some (1, .iconst 0) := by decide +kernel
theorem f_45_10 : zft 45 10 = some (2, .istore 5) := by decide +kernel
theorem f_45_12 : zft 45 12 = some (2, .iload 5) := by decide +kernel
theorem f_45_14 : zft 45 14 = some (1, .aload_n 1) := by decide +kernel
theorem f_45_15 : zft 45 15 = some (3, .getfield 39) := by decide +kernel
theorem f_45_18 : zft 45 18 = some (3, .if_icmp .ge 45) := by decide +kernel
theorem f_45_21 : zft 45 21 = some (1, .iload_n 3) := by decide +kernel
theorem f_45_22 : zft 45 22 = some (2, .iload 5) := by decide +kernel
theorem f_45_24 : zft 45 24 = some (3, .invokestatic 63) := by decide +kernel
theorem f_45_27 : zft 45 27 = some (3, .ifCond .eq 30) := by decide +kernel
theorem f_45_30 : zft 45 30 = some (2, .iload 4) := by decide +kernel
theorem f_45_32 : zft 45 32 = some (1, .iconst (-1)) := by decide +kernel
theorem f_45_33 : zft 45 33 = some (3, .if_icmp .eq 20) := by decide +kernel
theorem f_45_36 : zft 45 36 = some (1, .aload_n 0) := by decide +kernel
theorem f_45_37 : zft 45 37 = some (3, .getfield 15) := by decide +kernel
theorem f_45_40 : zft 45 40 = some (2, .iload 5) := by decide +kernel
theorem f_45_42 : zft 45 42 = some (1, .iaload) := by decide +kernel
theorem f_45_43 : zft 45 43 = some (1, .aload_n 0) := by decide +kernel
theorem f_45_44 : zft 45 44 = some (3, .getfield 15) := by decide +kernel
theorem f_45_47 : zft 45 47 = some (2, .iload 4) := by decide +kernel
theorem f_45_49 : zft 45 49 = some (1, .iaload) := by decide +kernel
theorem f_45_50 : zft 45 50 = some (3, .if_icmp .ge 7) := by decide +kernel
theorem f_45_53 : zft 45 53 = some (2, .iload 5) := by decide +kernel
theorem f_45_55 : zft 45 55 = some (2, .istore 4) := by decide +kernel
theorem f_45_57 : zft 45 57 = some (3, .iinc 5 1) := by decide +kernel
theorem f_45_60 : zft 45 60 = some (3, .goto (-48)) := by decide +kernel
theorem f_45_63 : zft 45 63 = some (2, .iload 4) := by decide +kernel
theorem f_45_65 : zft 45 65 = some (1, .ireturn) := by decide +kernel
theorem f_46_0 : zft 46 0 = some (1, .aload_n 0) := by decide +kernel
theorem f_46_1 : zft 46 1 = some (1, .iload_n 1) := by decide +kernel
theorem f_46_2 : zft 46 2 = some (3, .invokestatic 67) := by decide +kernel
theorem f_46_5 : zft 46 5 = some (1, .istore_n 2) := by decide +kernel
theorem f_46_6 : zft 46 6 = some (1, .iconst 0) := by decide +kernel
theorem f_46_7 : zft 46 7 = some (1, .istore_n 3) := by decide +kernel
theorem f_46_8 : zft 46 8 = some (1, .iconst 0) := by decide +kernel
theorem f_46_9 : zft 46 9 = some (2, .istore 4) := by decide +kernel
theorem f_46_11 : zft 46 11 = some (2, .iload 4) := by decide +kernel
theorem f_46_13 : zft 46 13 = some (1, .aload_n 0) := by decide +kernel
theorem f_46_14 : zft 46 14 = some (3, .getfield 70) := by decide +kernel
theorem f_46_17 : zft 46 17 = some (3, .if_icmp .ge 52) := by decide +kernel
theorem f_46_20 : zft 46 20 = some (1, .iconst 1) := by decide +kernel
theorem f_46_21 : zft 46 21 = some (1, .aload_n 0) := by decide +kernel
theorem f_46_22 : zft 46 22 = some (3, .getfield 73) := by decide +kernel
theorem f_46_25 : zft 46 25 = some (2, .iload 4) := by decide +kernel
theorem f_46_27 : zft 46 27 = some (1, .iaload) := by decide +kernel
theorem f_46_28 : zft 46 28 = some (1, .ishl) := by decide +kernel
theorem f_46_29 : zft 46 29 = some (1, .iconst 1) := by decide +kernel
theorem f_46_30 : zft 46 30 = some (1, .aload_n 0) := by decide +kernel
theorem f_46_31 : zft 46 31 = some (3, .getfield 76) := by decide +kernel
theorem f_46_34 : zft 46 34 = some (2, .iload 4) := by decide +kernel
theorem f_46_36 : zft 46 36 = some (1, .iaload) := by decide +kernel
theorem f_46_37 : zft 46 37 = some (1, .ishl) := by decide +kernel
theorem f_46_38 : zft 46 38 = some (1, .ior) := by decide +kernel
theorem f_46_39 : zft 46 39 = some (2, .istore 5) := by decide +kernel
theorem f_46_41 : zft 46 41 = some (2, .iload 5) := by decide +kernel
theorem f_46_43 : zft 46 43 = some (1, .iload_n 1) := by decide +kernel
theorem f_46_44 : zft 46 44 = some (1, .iand) := by decide +kernel
theorem f_46_45 : zft 46 45 = some (3, .ifCond .eq 18) := by decide +kernel
theorem f_46_48 : zft 46 48 = some (1, .aload_n 0) := by decide +kernel
theorem f_46_49 : zft 46 49 = some (2, .iload 4) := by decide +kernel
theorem f_46_51 : zft 46 51 = some (1, .iload_n 2) := by decide +kernel
theorem f_46_52 : zft 46 52 = some (3, .invokevirtual 79) := by decide +kernel
theorem f_46_55 : zft 46 55 = some (3, .ifCond .eq 8) := by decide +kernel
theorem f_46_58 : zft 46 58 = some (1, .iload_n 3) := by decide +kernel
theorem f_46_59 : zft 46 59 = some (2, .iload 5) := by decide +kernel
theorem f_46_61 : zft 46 61 = some (1, .ior) := by decide +kernel
theorem f_46_62 : zft 46 62 = some (1, .istore_n 3) := by decide +kernel
theorem f_46_63 : zft 46 63 = some (3, .iinc 4 1) := by decide +kernel
theorem f_46_66 : zft 46 66 = some (3, .goto (-55)) := by decide +kernel
theorem f_46_69 : zft 46 69 = some (1, .iload_n 3) := by decide +kernel
theorem f_46_70 : zft 46 70 = some (1, .iload_n 1) := by decide +kernel
theorem f_46_71 : zft 46 71 = some (1, .iconst (-1)) := by decide +kernel
theorem f_46_72 : zft 46 72 = some (1, .ixor) := by decide +kernel
theorem f_46_73 : zft 46 73 = some (1, .iand) := by decide +kernel
theorem f_46_74 : zft 46 74 = some (1, .ireturn) := by decide +kernel
theorem f_47_0 : zft 47 0 = some (1, .iload_n 1) := by decide +kernel
theorem f_47_1 : zft 47 1 = some (3, .ifCond .lt 15) := by decide +kernel
theorem f_47_4 : zft 47 4 = some (1, .iload_n 1) := by decide +kernel
theorem f_47_5 : zft 47 5 = some (1, .aload_n 0) := by decide +kernel
theorem f_47_6 : zft 47 6 = some (3, .getfield 24) := by decide +kernel
theorem f_47_9 : zft 47 9 = some (3, .if_icmp .ge 7) := by decide +kernel
theorem f_47_12 : zft 47 12 = some (1, .iconst 1) := by decide +kernel
theorem f_47_13 : zft 47 13 = some (3, .goto 4) := by decide +kernel
theorem f_47_16 : zft 47 16 = some (1, .iconst 0) := by decide +kernel
theorem f_47_17 : zft 47 17 = some (1, .ireturn) := by decide +kernel
theorem f_48_0 : zft 48 0 = some (1, .iconst 0) := by decide +kernel
theorem f_48_1 : zft 48 1 = some (1, .istore_n 2) := by decide +kernel
theorem f_48_2 : zft 48 2 = some (1, .iload_n 2) := by decide +kernel
theorem f_48_3 : zft 48 3 = some (1, .aload_n 0) := by decide +kernel
theorem f_48_4 : zft 48 4 = some (3, .getfield 24) := by decide +kernel
theorem f_48_7 : zft 48 7 = some (3, .if_icmp .ge 21) := by decide +kernel
theorem f_48_10 : zft 48 10 = some (1, .aload_n 0) := by decide +kernel
theorem f_48_11 : zft 48 11 = some (3, .getfield 18) := by decide +kernel
theorem f_48_14 : zft 48 14 = some (1, .iload_n 2) := by decide +kernel
theorem f_48_15 : zft 48 15 = some (1, .iaload) := by decide +kernel
theorem f_48_16 : zft 48 16 = some (1, .iload_n 1) := by decide +kernel
theorem f_48_17 : zft 48 17 = some (3, .if_icmp .ne 5) := by decide +kernel
theorem f_48_20 : zft 48 20 = some (1, .iload_n 2) := by decide +kernel
theorem f_48_21 : zft 48 21 = some (1, .ireturn) := by decide +kernel
theorem f_48_22 : zft 48 22 = some (3, .iinc 2 1) := by decide +kernel
theorem f_48_25 : zft 48 25 = some (3, .goto (-23)) := by decide +kernel
theorem f_48_28 : zft 48 28 = some (2, .bipush (-104)) := by decide +kernel
theorem f_48_30 : zft 48 30 = some (1, .ireturn) := by decide +kernel
theorem f_49_0 : zft 49 0 = some (1, .aload_n 0) := by decide +kernel
theorem f_49_1 : zft 49 1 = some (3, .getfield 15) := by decide +kernel
theorem f_49_4 : zft 49 4 = some (1, .aload_n 0) := by decide +kernel
theorem f_49_5 : zft 49 5 = some (3, .getfield 18) := by decide +kernel
theorem f_49_8 : zft 49 8 = some (1, .iload_n 1) := by decide +kernel
theorem f_49_9 : zft 49 9 = some (1, .iaload) := by decide +kernel
theorem f_49_10 : zft 49 10 = some (1, .iaload) := by decide +kernel
theorem f_49_11 : zft 49 11 = some (1, .aload_n 0) := by decide +kernel
theorem f_49_12 : zft 49 12 = some (3, .getfield 15) := by decide +kernel
theorem f_49_15 : zft 49 15 = some (1, .aload_n 0) := by decide +kernel
theorem f_49_16 : zft 49 16 = some (3, .getfield 18) := by decide +kernel
theorem f_49_19 : zft 49 19 = some (1, .iload_n 1) := by decide +kernel
theorem f_49_20 : zft 49 20 = some (1, .iconst 1) := by decide +kernel
theorem f_49_21 : zft 49 21 = some (1, .isub) := by decide +kernel
theorem f_49_22 : zft 49 22 = some (1, .iaload) := by decide +kernel
theorem f_49_23 : zft 49 23 = some (1, .iaload) := by decide +kernel
theorem f_49_24 : zft 49 24 = some (1, .isub) := by decide +kernel
theorem f_49_25 : zft 49 25 = some (1, .ireturn) := by decide +kernel
theorem f_50_0 : zft 50 0 = some (1, .iconst 0) := by decide +kernel
theorem f_50_1 : zft 50 1 = some (1, .istore_n 2) := by decide +kernel
theorem f_50_2 : zft 50 2 = some (1, .iconst 1) := by decide +kernel
theorem f_50_3 : zft 50 3 = some (1, .istore_n 3) := by decide +kernel
theorem f_50_4 : zft 50 4 = some (1, .iload_n 3) := by decide +kernel
theorem f_50_5 : zft 50 5 = some (1, .aload_n 0) := by decide +kernel
theorem f_50_6 : zft 50 6 = some (3, .getfield 24) := by decide +kernel
theorem f_50_9 : zft 50 9 = some (3, .if_icmp .ge 39) := by decide +kernel
theorem f_50_12 : zft 50 12 = some (1, .aload_n 1) := by decide +kernel
theorem f_50_13 : zft 50 13 = some (1, .aload_n 0) := by decide +kernel
theorem f_50_14 : zft 50 14 = some (3, .getfield 18) := by decide +kernel
theorem f_50_17 : zft 50 17 = some (1, .iload_n 3) := by decide +kernel
theorem f_50_18 : zft 50 18 = some (1, .iconst 1) := by decide +kernel
theorem f_50_19 : zft 50 19 = some (1, .isub) := by decide +kernel
theorem f_50_20 : zft 50 20 = some (1, .iaload) := by decide +kernel
theorem f_50_21 : zft 50 21 = some (1, .aload_n 0) := by decide +kernel
theorem f_50_22 : zft 50 22 = some (3, .getfield 21) := by decide +kernel
theorem f_50_25 : zft 50 25 = some (3, .invokestatic 33) := by decide +kernel
theorem f_50_28 : zft 50 28 = some (1, .iload_n 2) := by decide +kernel
theorem f_50_29 : zft 50 29 = some (1, .aload_n 0) := by decide +kernel
theorem f_50_30 : zft 50 30 = some (3, .getfield 21) := by decide +kernel
theorem f_50_33 : zft 50 33 = some (1, .aload_n 0) := by decide +kernel
theorem f_50_34 : zft 50 34 = some (3, .getfield 18) := by decide +kernel
theorem f_50_37 : zft 50 37 = some (1, .iload_n 3) := by decide +kernel
theorem f_50_38 : zft 50 38 = some (1, .iaload) := by decide +kernel
theorem f_50_39 : zft 50 39 = some (1, .iaload) := by decide +kernel
theorem f_50_40 : zft 50 40 = some (1, .iadd) := by decide +kernel
theorem f_50_41 : zft 50 41 = some (1, .istore_n 2) := by decide +kernel
theorem f_50_42 : zft 50 42 = some (3, .iinc 3 1) := by decide +kernel
theorem f_50_45 : zft 50 45 = some (3, .goto (-41)) := by decide +kernel
theorem f_50_48 : zft 50 48 = some (1, .iload_n 2) := by decide +kernel
theorem f_50_49 : zft 50 49 = some (1, .ireturn) := by decide +kernel
theorem f_51_0 : zft 51 0 = some (1, .aload_n 0) := by decide +kernel
theorem f_51_1 : zft 51 1 = some (3, .invokespecial 3) := by decide +kernel
theorem f_51_4 : zft 51 4 = some (1, .aload_n 0) := by decide +kernel
theorem f_51_5 : zft 51 5 = some (3, .sipush 384) := by decide +kernel
theorem f_51_8 : zft 51 8 = some (2, .newarray .int) := by decide +kernel
theorem f_51_10 : zft 51 10 = some (3, .putfield 9) := by decide +kernel
theorem f_51_13 : zft 51 13 = some (1, .aload_n 0) := by decide +kernel
theorem f_51_14 : zft 51 14 = some (3, .sipush 384) := by decide +kernel
theorem f_51_17 : zft 51 17 = some (2, .newarray .int) := by decide +kernel
theorem f_51_19 : zft 51 19 = some (3, .putfield 15) := by decide +kernel
theorem f_51_22 : zft 51 22 = some (1, .aload_n 0) := by decide +kernel
theorem f_51_23 : zft 51 23 = some (3, .sipush 384) := by decide +kernel
theorem f_51_26 : zft 51 26 = some (2, .newarray .int) := by decide +kernel
theorem f_51_28 : zft 51 28 = some (3, .putfield 18) := by decide +kernel
theorem f_51_31 : zft 51 31 = some (1, .aload_n 0) := by decide +kernel
theorem f_51_32 : zft 51 32 = some (3, .sipush 384) := by decide +kernel
theorem f_51_35 : zft 51 35 = some (2, .newarray .int) := by decide +kernel
theorem f_51_37 : zft 51 37 = some (3, .putfield 21) := by decide +kernel
theorem f_51_40 : zft 51 40 = some (1, .aload_n 0) := by decide +kernel
theorem f_51_41 : zft 51 41 = some (3, .sipush 384) := by decide +kernel
theorem f_51_44 : zft 51 44 = some (2, .newarray .int) := by decide +kernel
theorem f_51_46 : zft 51 46 = some (3, .putfield 24) := by decide +kernel
theorem f_51_49 : zft 51 49 = some (1, .aload_n 0) := by decide +kernel
theorem f_51_50 : zft 51 50 = some (1, .iconst 0) := by decide +kernel
theorem f_51_51 : zft 51 51 = some (3, .putfield 27) := by decide +kernel
theorem f_51_54 : zft 51 54 = some (1, .return_) := by decide +kernel
theorem f_52_0 : zft 52 0 = some (1, .aload_n 0) := by decide +kernel
theorem f_52_1 : zft 52 1 = some (3, .getfield 9) := by decide +kernel
theorem f_52_4 : zft 52 4 = some (1, .iconst (-1)) := by decide +kernel
theorem f_52_5 : zft 52 5 = some (3, .invokestatic 31) := by decide +kernel
theorem f_52_8 : zft 52 8 = some (1, .aload_n 0) := by decide +kernel
theorem f_52_9 : zft 52 9 = some (3, .getfield 15) := by decide +kernel
theorem f_52_12 : zft 52 12 = some (1, .iconst (-1)) := by decide +kernel
theorem f_52_13 : zft 52 13 = some (3, .invokestatic 31) := by decide +kernel
theorem f_52_16 : zft 52 16 = some (1, .aload_n 0) := by decide +kernel
theorem f_52_17 : zft 52 17 = some (3, .getfield 18) := by decide +kernel
theorem f_52_20 : zft 52 20 = some (1, .iconst (-1)) := by decide +kernel
theorem f_52_21 : zft 52 21 = some (3, .invokestatic 31) := by decide +kernel
theorem f_52_24 : zft 52 24 = some (1, .iconst 0) := by decide +kernel
theorem f_52_25 : zft 52 25 = some (1, .istore_n 2) := by decide +kernel
theorem f_52_26 : zft 52 26 = some (1, .iload_n 2) := by decide +kernel
theorem f_52_27 : zft 52 27 = some (1, .aload_n 1) := by decide +kernel
theorem f_52_28 : zft 52 28 = some (3, .getfield 37) := by decide +kernel
theorem f_52_31 : zft 52 31 = some (3, .if_icmp .ge 15) := by decide +kernel
theorem f_52_34 : zft 52 34 = some (1, .aload_n 0) := by decide +kernel
theorem f_52_35 : zft 52 35 = some (1, .aload_n 1) := by decide +kernel
theorem f_52_36 : zft 52 36 = some (1, .iload_n 2) := by decide +kernel
theorem f_52_37 : zft 52 37 = some (3, .invokevirtual 42) := by decide +kernel
theorem f_52_40 : zft 52 40 = some (3, .iinc 2 1) := by decide +kernel
theorem f_52_43 : zft 52 43 = some (3, .goto (-17)) := by decide +kernel
theorem f_52_46 : zft 52 46 = some (1, .aload_n 1) := by decide +kernel
theorem f_52_47 : zft 52 47 = some (3, .getfield 46) := by decide +kernel
theorem f_52_50 : zft 52 50 = some (1, .iconst 1) := by decide +kernel
theorem f_52_51 : zft 52 51 = some (1, .isub) := by decide +kernel
theorem f_52_52 : zft 52 52 = some (1, .istore_n 2) := by decide +kernel
theorem f_52_53 : zft 52 53 = some (1, .iload_n 2) := by decide +kernel
theorem f_52_54 : zft 52 54 = some (3, .ifCond .lt 15) := by decide +kernel
theorem f_52_57 : zft 52 57 = some (1, .aload_n 0) := by decide +kernel
theorem f_52_58 : zft 52 58 = some (1, .aload_n 1) := by decide +kernel
theorem f_52_59 : zft 52 59 = some (1, .iload_n 2) := by decide +kernel
theorem f_52_60 : zft 52 60 = some (3, .invokevirtual 49) := by decide +kernel
theorem f_52_63 : zft 52 63 = some (3, .iinc 2 (-1)) := by decide +kernel
theorem f_52_66 : zft 52 66 = some (3, .goto (-13)) := by decide +kernel
theorem f_52_69 : zft 52 69 = some (1, .return_) := by decide +kernel
theorem f_53_0 : zft 53 0 = some (1, .iconst 0) := by decide +kernel
theorem f_53_1 : zft 53 1 = some (1, .istore_n 3) := by decide +kernel
theorem f_53_2 : zft 53 2 = some (1, .iload_n 3) := by decide +kernel
theorem f_53_3 : zft 53 3 = some (1, .aload_n 1) := by decide +kernel
theorem f_53_4 : zft 53 4 = some (3, .getfield 52) := by decide +kernel
theorem f_53_7 : zft 53 7 = some (1, .iload_n 2) := by decide +kernel
theorem f_53_8 : zft 53 8 = some (1, .iaload) := by decide +kernel
theorem f_53_9 : zft 53 9 = some (3, .if_icmp .ge 65) := by decide +kernel
theorem f_53_12 : zft 53 12 = some (1, .iconst 0) := by decide +kernel
theorem f_53_13 : zft 53 13 = some (2, .istore 4) := by decide +kernel
theorem f_53_15 : zft 53 15 = some (2, .iload 4) := by decide +kernel
theorem f_53_17 : zft 53 17 = some (1, .aload_n 1) := by decide +kernel
theorem f_53_18 : zft 53 18 = some (3, .getfield 55) := by decide +kernel
theorem f_53_21 : zft 53 21 = some (1, .iload_n 2) := by decide +kernel
theorem f_53_22 : zft 53 22 = some (1, .iaload) := by decide +kernel
theorem f_53_23 : zft 53 23 = some (3, .if_icmp .ge 45) := by decide +kernel
theorem f_53_26 : zft 53 26 = some (1, .aload_n 1) := by decide +kernel
theorem f_53_27 : zft 53 27 = some (3, .getfield 58) := by decide +kernel
theorem f_53_30 : zft 53 30 = some (1, .iload_n 2) := by decide +kernel
theorem f_53_31 : zft 53 31 = some (1, .iaload) := by decide +kernel
theorem f_53_32 : zft 53 32 = some (2, .iload 4) := by decide +kernel
theorem f_53_34 : zft 53 34 = some (1, .iadd) := by decide +kernel
theorem f_53_35 : zft 53 35 = some (1, .aload_n 1) := by decide +kernel
theorem f_53_36 : zft 53 36 = some (3, .getfield 61) := by decide +kernel
theorem f_53_39 : zft 53 39 = some (1, .iload_n 2) := by decide +kernel
theorem f_53_40 : zft 53 40 = some (1, .iaload) := by decide +kernel
theorem f_53_41 : zft 53 41 = some (1, .iload_n 3) := by decide +kernel
theorem f_53_42 : zft 53 42 = some (1, .iadd) := by decide +kernel
theorem f_53_43 : zft 53 43 = some (3, .invokestatic 64) := by decide +kernel
theorem f_53_46 : zft 53 46 = some (2, .istore 5) := by decide +kernel
theorem f_53_48 : zft 53 48 = some (2, .iload 5) := by decide +kernel
theorem f_53_50 : zft 53 50 = some (1, .iconst (-1)) := by decide +kernel
theorem f_53_51 : zft 53 51 = some (3, .if_icmp .eq 11) := by decide +kernel
theorem f_53_54 : zft 53 54 = some (1, .aload_n 0) := by decide +kernel
theorem f_53_55 : zft 53 55 = some (3, .getfield 9) := by decide +kernel
theorem f_53_58 : zft 53 58 = some (2, .iload 5) := by decide +kernel
theorem f_53_60 : zft 53 60 = some (1, .iload_n 2) := by decide +kernel
theorem f_53_61 : zft 53 61 = some (1, .iastore) := by decide +kernel
theorem f_53_62 : zft 53 62 = some (3, .iinc 4 1) := by decide +kernel
theorem f_53_65 : zft 53 65 = some (3, .goto (-50)) := by decide +kernel
theorem f_53_68 : zft 53 68 = some (3, .iinc 3 1) := by decide +kernel
theorem f_53_71 : zft 53 71 = some (3, .goto (-69)) := by decide +kernel
theorem f_53_74 : zft 53 74 = some (1, .return_) := by decide +kernel
theorem f_54_0 : zft 54 0 = some (1, .aload_n 1) := by decide +kernel
theorem f_54_1 : zft 54 1 = some (1, .aload_n 1) := by decide +kernel
theorem f_54_2 : zft 54 2 = some (3, .getfield 68) := by decide +kernel
theorem f_54_5 : zft 54 5 = some (1, .iload_n 2) := by decide +kernel
theorem f_54_6 : zft 54 6 = some (1, .iaload) := by decide +kernel
theorem f_54_7 : zft 54 7 = some (1, .aload_n 1) := by decide +kernel
theorem f_54_8 : zft 54 8 = some (3, .getfield 71) := by decide +kernel
theorem f_54_11 : zft 54 11 = some (1, .iload_n 2) := by decide +kernel
theorem f_54_12 : zft 54 12 = some (1, .iaload) := by decide +kernel
theorem f_54_13 : zft 54 13 = some (3, .invokevirtual 74) := by decide +kernel
theorem f_54_16 : zft 54 16 = some (1, .istore_n 3) := by decide +kernel
theorem f_54_17 : zft 54 17 = some (1, .iconst 0) := by decide +kernel
theorem f_54_18 : zft 54 18 = some (2, .istore 4) := by decide +kernel
theorem f_54_20 : zft 54 20 = some (2, .iload 4) := by decide +kernel
theorem f_54_22 : zft 54 22 = some (1, .iload_n 3) := by decide +kernel
theorem f_54_23 : zft 54 23 = some (3, .if_icmp .gt 76) := by decide +kernel
theorem f_54_26 : zft 54 26 = some (1, .aload_n 1) := by decide +kernel
theorem f_54_27 : zft 54 27 = some (1, .iload_n 2) := by decide +kernel
theorem f_54_28 : zft 54 28 = some (2, .iload 4) := by decide +kernel
theorem f_54_30 : zft 54 30 = some (3, .invokestatic 77) := by decide +kernel
theorem f_54_33 : zft 54 33 = some (2, .istore 5) := by decide +kernel
theorem f_54_35 : zft 54 35 = some (2, .iload 5) := by decide +kernel
theorem f_54_37 : zft 54 37 = some (1, .iconst (-1)) := by decide +kernel
theorem f_54_38 : zft 54 38 = some (3, .if_icmp .eq 55) := by decide +kernel
theorem f_54_41 : zft 54 41 = some (1, .aload_n 0) := by decide +kernel
theorem f_54_42 : zft 54 42 = some (3, .getfield 9) := by decide +kernel
theorem f_54_45 : zft 54 45 = some (2, .iload 5) := by decide +kernel
theorem f_54_47 : zft 54 47 = some (1, .iaload) := by decide +kernel
theorem f_54_48 : zft 54 48 = some (1, .iconst (-1)) := by decide +kernel
theorem f_54_49 : zft 54 49 = some (3, .if_icmp .ne 44) := by decide +kernel
theorem f_54_52 : zft 54 52 = some (1, .aload_n 0) := by decide +kernel
theorem f_54_53 : zft 54 53 = some (3, .getfield 15) := by decide +kernel
theorem f_54_56 : zft 54 56 = some (2, .iload 5) := by decide +kernel
theorem f_54_58 : zft 54 58 = some (1, .iload_n 2) := by decide +kernel
theorem f_54_59 : zft 54 59 = some (1, .iastore) := by decide +kernel
theorem f_54_60 : zft 54 60 = some (1, .aload_n 0) := by decide +kernel
theorem f_54_61 : zft 54 61 = some (3, .getfield 18) := by decide +kernel
theorem f_54_64 : zft 54 64 = some (2, .iload 5) := by decide +kernel
theorem f_54_66 : zft 54 66 = some (1, .aload_n 1) := by decide +kernel
theorem f_54_67 : zft 54 67 = some (3, .getfield 81) := by decide +kernel
theorem f_54_70 : zft 54 70 = some (1, .iload_n 2) := by decide +kernel
theorem f_54_71 : zft 54 71 = some (1, .iaload) := by decide +kernel
theorem f_54_72 : zft 54 72 = some (1, .iconst (-1)) := by decide +kernel
theorem f_54_73 : zft 54 73 = some (3, .if_icmp .ne 13) := by decide +kernel
theorem f_54_76 : zft 54 76 = some (1, .aload_n 0) := by decide +kernel
theorem f_54_77 : zft 54 77 = some (3, .getfield 18) := by decide +kernel
theorem f_54_80 : zft 54 80 = some (2, .iload 5) := by decide +kernel
theorem f_54_82 : zft 54 82 = some (1, .iaload) := by decide +kernel
theorem f_54_83 : zft 54 83 = some (3, .goto 9) := by decide +kernel
theorem f_54_86 : zft 54 86 = some (1, .aload_n 1) := by decide +kernel
theorem f_54_87 : zft 54 87 = some (3, .getfield 81) := by decide +kernel
theorem f_54_90 : zft 54 90 = some (1, .iload_n 2) := by decide +kernel
theorem f_54_91 : zft 54 91 = some (1, .iaload) := by decide +kernel
theorem f_54_92 : zft 54 92 = some (1, .iastore) := by decide +kernel
theorem f_54_93 : zft 54 93 = some (3, .iinc 4 1) := by decide +kernel
theorem f_54_96 : zft 54 96 = some (3, .goto (-76)) := by decide +kernel
theorem f_54_99 : zft 54 99 = some (1, .return_) := by decide +kernel
theorem f_55_0 : zft 55 0 = some (1, .aload_n 0) := by decide +kernel
theorem f_55_1 : zft 55 1 = some (1, .aload_n 0) := by decide +kernel
theorem f_55_2 : zft 55 2 = some (3, .getfield 68) := by decide +kernel
theorem f_55_5 : zft 55 5 = some (1, .iload_n 1) := by decide +kernel
theorem f_55_6 : zft 55 6 = some (1, .iaload) := by decide +kernel
theorem f_55_7 : zft 55 7 = some (3, .invokevirtual 84) := by decide +kernel
theorem f_55_10 : zft 55 10 = some (1, .istore_n 3) := by decide +kernel
theorem f_55_11 : zft 55 11 = some (1, .aload_n 0) := by decide +kernel
theorem f_55_12 : zft 55 12 = some (1, .aload_n 0) := by decide +kernel
theorem f_55_13 : zft 55 13 = some (3, .getfield 68) := by decide +kernel
theorem f_55_16 : zft 55 16 = some (1, .iload_n 1) := by decide +kernel
theorem f_55_17 : zft 55 17 = some (1, .iaload) := by decide +kernel
theorem f_55_18 : zft 55 18 = some (3, .invokevirtual 88) := by decide +kernel
theorem f_55_21 : zft 55 21 = some (2, .istore 4) := by decide +kernel
theorem f_55_23 : zft 55 23 = some (1, .aload_n 0) := by decide +kernel
theorem f_55_24 : zft 55 24 = some (1, .aload_n 0) := by decide +kernel
theorem f_55_25 : zft 55 25 = some (3, .getfield 71) := by decide +kernel
theorem f_55_28 : zft 55 28 = some (1, .iload_n 1) := by decide +kernel
theorem f_55_29 : zft 55 29 = some (1, .iaload) := by decide +kernel
theorem f_55_30 : zft 55 30 = some (3, .invokevirtual 84) := by decide +kernel
theorem f_55_33 : zft 55 33 = some (1, .iload_n 3) := by decide +kernel
theorem f_55_34 : zft 55 34 = some (1, .isub) := by decide +kernel
theorem f_55_35 : zft 55 35 = some (2, .istore 5) := by decide +kernel
theorem f_55_37 : zft 55 37 = some (1, .aload_n 0) := by decide +kernel
theorem f_55_38 : zft 55 38 = some (1, .aload_n 0) := by decide +kernel
theorem f_55_39 : zft 55 39 = some (3, .getfield 71) := by decide +kernel
theorem f_55_42 : zft 55 42 = some (1, .iload_n 1) := by decide +kernel
theorem f_55_43 : zft 55 43 = some (1, .iaload) := by decide +kernel
theorem f_55_44 : zft 55 44 = some (3, .invokevirtual 88) := by decide +kernel
theorem f_55_47 : zft 55 47 = some (2, .iload 4) := by decide +kernel
theorem f_55_49 : zft 55 49 = some (1, .isub) := by decide +kernel
theorem f_55_50 : zft 55 50 = some (2, .istore 6) := by decide +kernel
theorem f_55_52 : zft 55 52 = some (1, .iload_n 1) := by decide +kernel
theorem f_55_53 : zft 55 53 = some (1, .iconst 2) := by decide +kernel
theorem f_55_54 : zft 55 54 = some (1, .irem) := by decide +kernel
theorem f_55_55 : zft 55 55 = some (3, .ifCond .ne 7) := by decide +kernel
theorem f_55_58 : zft 55 58 = some (1, .iconst 1) := by decide +kernel
theorem f_55_59 : zft 55 59 = some (3, .goto 4) := by decide +kernel
theorem f_55_62 : zft 55 62 = some (1, .iconst 0) := by decide +kernel
theorem f_55_63 : zft 55 63 = some (2, .istore 7) := by decide +kernel
theorem f_55_65 : zft 55 65 = some (2, .iload 7) := by decide +kernel
theorem f_55_67 : zft 55 67 = some (3, .ifCond .eq 15) := by decide +kernel
theorem f_55_70 : zft 55 70 = some (1, .iload_n 2) := by decide +kernel
theorem f_55_71 : zft 55 71 = some (2, .iload 5) := by decide +kernel
theorem f_55_73 : zft 55 73 = some (3, .invokestatic 91) := by decide +kernel
theorem f_55_76 : zft 55 76 = some (3, .invokestatic 96) := by decide +kernel
theorem f_55_79 : zft 55 79 = some (3, .goto 14) := by decide +kernel
theorem f_55_82 : zft 55 82 = some (1, .iconst 0) := by decide +kernel
theorem f_55_83 : zft 55 83 = some (1, .iload_n 2) := by decide +kernel
theorem f_55_84 : zft 55 84 = some (2, .iload 6) := by decide +kernel
theorem f_55_86 : zft 55 86 = some (3, .invokestatic 91) := by decide +kernel
theorem f_55_89 : zft 55 89 = some (1, .isub) := by decide +kernel
theorem f_55_90 : zft 55 90 = some (3, .invokestatic 99) := by decide +kernel
theorem f_55_93 : zft 55 93 = some (2, .istore 8) := by decide +kernel
theorem f_55_95 : zft 55 95 = some (1, .iload_n 3) := by decide +kernel
theorem f_55_96 : zft 55 96 = some (2, .iload 5) := by decide +kernel
theorem f_55_98 : zft 55 98 = some (3, .invokestatic 102) := by decide +kernel
theorem f_55_101 : zft 55 101 = some (2, .iload 8) := by decide +kernel
theorem f_55_103 : zft 55 103 = some (1, .imul) := by decide +kernel
theorem f_55_104 : zft 55 104 = some (1, .iadd) := by decide +kernel
theorem f_55_105 : zft 55 105 = some (2, .iload 4) := by decide +kernel
theorem f_55_107 : zft 55 107 = some (2, .iload 6) := by decide +kernel
theorem f_55_109 : zft 55 109 = some (3, .invokestatic 102) := by decide +kernel
theorem f_55_112 : zft 55 112 = some (1, .iload_n 2) := by decide +kernel
theorem f_55_113 : zft 55 113 = some (2, .iload 8) := by decide +kernel
theorem f_55_115 : zft 55 115 = some (1, .isub) := by decide +kernel
theorem f_55_116 : zft 55 116 = some (1, .imul) := by decide +kernel
theorem f_55_117 : zft 55 117 = some (1, .iadd) := by decide +kernel
theorem f_55_118 : zft 55 118 = some (3, .invokestatic 64) := by decide +kernel
theorem f_55_121 : zft 55 121 = some (1, .ireturn) := by decide +kernel
theorem f_56_0 : zft 56 0 = some (1, .iconst 0) := by decide +kernel
theorem f_56_1 : zft 56 1 = some (1, .istore_n 3) := by decide +kernel
theorem f_56_2 : zft 56 2 = some (1, .aload_n 1) := by decide +kernel
theorem f_56_3 : zft 56 3 = some (1, .aload_n 1) := by decide +kernel
theorem f_56_4 : zft 56 4 = some (3, .getfield 68) := by decide +kernel
theorem f_56_7 : zft 56 7 = some (1, .iload_n 2) := by decide +kernel
theorem f_56_8 : zft 56 8 = some (1, .iaload) := by decide +kernel
theorem f_56_9 : zft 56 9 = some (1, .aload_n 1) := by decide +kernel
theorem f_56_10 : zft 56 10 = some (3, .getfield 71) := by decide +kernel
theorem f_56_13 : zft 56 13 = some (1, .iload_n 2) := by decide +kernel
theorem f_56_14 : zft 56 14 = some (1, .iaload) := by decide +kernel
theorem f_56_15 : zft 56 15 = some (3, .invokevirtual 74) := by decide +kernel
theorem f_56_18 : zft 56 18 = some (2, .istore 4) := by decide +kernel
theorem f_56_20 : zft 56 20 = some (1, .iconst 0) := by decide +kernel
theorem f_56_21 : zft 56 21 = some (2, .istore 5) := by decide +kernel
theorem f_56_23 : zft 56 23 = some (2, .iload 5) := by decide +kernel
theorem f_56_25 : zft 56 25 = some (2, .iload 4) := by decide +kernel
theorem f_56_27 : zft 56 27 = some (3, .if_icmp .gt 38) := by decide +kernel
theorem f_56_30 : zft 56 30 = some (1, .aload_n 1) := by decide +kernel
theorem f_56_31 : zft 56 31 = some (1, .iload_n 2) := by decide +kernel
theorem f_56_32 : zft 56 32 = some (2, .iload 5) := by decide +kernel
theorem f_56_34 : zft 56 34 = some (3, .invokestatic 77) := by decide +kernel
theorem f_56_37 : zft 56 37 = some (2, .istore 6) := by decide +kernel
theorem f_56_39 : zft 56 39 = some (2, .iload 6) := by decide +kernel
theorem f_56_41 : zft 56 41 = some (1, .iconst (-1)) := by decide +kernel
theorem f_56_42 : zft 56 42 = some (3, .if_icmp .eq 17) := by decide +kernel
theorem f_56_45 : zft 56 45 = some (1, .aload_n 0) := by decide +kernel
theorem f_56_46 : zft 56 46 = some (3, .getfield 9) := by decide +kernel
theorem f_56_49 : zft 56 49 = some (2, .iload 6) := by decide +kernel
theorem f_56_51 : zft 56 51 = some (1, .iaload) := by decide +kernel
theorem f_56_52 : zft 56 52 = some (1, .iconst (-1)) := by decide +kernel
theorem f_56_53 : zft 56 53 = some (3, .if_icmp .ne 6) := by decide +kernel
theorem f_56_56 : zft 56 56 = some (3, .iinc 3 1) := by decide +kernel
theorem f_56_59 : zft 56 59 = some (3, .iinc 5 1) := by decide +kernel
theorem f_56_62 : zft 56 62 = some (3, .goto (-39)) := by decide +kernel
theorem f_56_65 : zft 56 65 = some (1, .iload_n 3) := by decide +kernel
theorem f_56_66 : zft 56 66 = some (1, .ireturn) := by decide +kernel
theorem f_57_0 : zft 57 0 = some (1, .iconst 0) := by decide +kernel
theorem f_57_1 : zft 57 1 = some (1, .istore_n 1) := by decide +kernel
theorem f_57_2 : zft 57 2 = some (1, .iconst 0) := by decide +kernel
theorem f_57_3 : zft 57 3 = some (1, .istore_n 2) := by decide +kernel
theorem f_57_4 : zft 57 4 = some (1, .iload_n 2) := by decide +kernel
theorem f_57_5 : zft 57 5 = some (3, .sipush 384) := by decide +kernel
theorem f_57_8 : zft 57 8 = some (3, .if_icmp .ge 22) := by decide +kernel
theorem f_57_11 : zft 57 11 = some (1, .aload_n 0) := by decide +kernel
theorem f_57_12 : zft 57 12 = some (3, .getfield 15) := by decide +kernel
theorem f_57_15 : zft 57 15 = some (1, .iload_n 2) := by decide +kernel
theorem f_57_16 : zft 57 16 = some (1, .iaload) := by decide +kernel
theorem f_57_17 : zft 57 17 = some (1, .iconst (-1)) := by decide +kernel
theorem f_57_18 : zft 57 18 = some (3, .if_icmp .eq 6) := by decide +kernel
theorem f_57_21 : zft 57 21 = some (3, .iinc 1 1) := by decide +kernel
theorem f_57_24 : zft 57 24 = some (3, .iinc 2 1) := by decide +kernel
theorem f_57_27 : zft 57 27 = some (3, .goto (-23)) := by decide +kernel
theorem f_57_30 : zft 57 30 = some (1, .iload_n 1) := by decide +kernel
theorem f_57_31 : zft 57 31 = some (1, .ireturn) := by decide +kernel
theorem f_58_0 : zft 58 0 = some (1, .aload_n 0) := by decide +kernel
theorem f_58_1 : zft 58 1 = some (3, .getfield 9) := by decide +kernel
theorem f_58_4 : zft 58 4 = some (1, .iload_n 1) := by decide +kernel
theorem f_58_5 : zft 58 5 = some (1, .iaload) := by decide +kernel
theorem f_58_6 : zft 58 6 = some (1, .iconst (-1)) := by decide +kernel
theorem f_58_7 : zft 58 7 = some (3, .if_icmp .ne 13) := by decide +kernel
theorem f_58_10 : zft 58 10 = some (1, .aload_n 0) := by decide +kernel
theorem f_58_11 : zft 58 11 = some (3, .getfield 15) := by decide +kernel
theorem f_58_14 : zft 58 14 = some (1, .iload_n 1) := by decide +kernel
theorem f_58_15 : zft 58 15 = some (1, .iaload) := by decide +kernel
theorem f_58_16 : zft 58 16 = some (1, .iconst (-1)) := by decide +kernel
theorem f_58_17 : zft 58 17 = some (3, .if_icmp .eq 7) := by decide +kernel
theorem f_58_20 : zft 58 20 = some (1, .iconst 1) := by decide +kernel
theorem f_58_21 : zft 58 21 = some (3, .goto 4) := by decide +kernel
theorem f_58_24 : zft 58 24 = some (1, .iconst 0) := by decide +kernel
theorem f_58_25 : zft 58 25 = some (1, .ireturn) := by decide +kernel
theorem f_59_0 : zft 59 0 = some (1, .aload_n 0) := by decide +kernel
theorem f_59_1 : zft 59 1 = some (3, .getfield 9) := by decide +kernel
theorem f_59_4 : zft 59 4 = some (1, .iload_n 1) := by decide +kernel
theorem f_59_5 : zft 59 5 = some (1, .iaload) := by decide +kernel
theorem f_59_6 : zft 59 6 = some (1, .iconst (-1)) := by decide +kernel
theorem f_59_7 : zft 59 7 = some (3, .if_icmp .eq 10) := by decide +kernel
theorem f_59_10 : zft 59 10 = some (1, .aload_n 0) := by decide +kernel
theorem f_59_11 : zft 59 11 = some (3, .getfield 9) := by decide +kernel
theorem f_59_14 : zft 59 14 = some (1, .iload_n 1) := by decide +kernel
theorem f_59_15 : zft 59 15 = some (1, .iaload) := by decide +kernel
theorem f_59_16 : zft 59 16 = some (1, .ireturn) := by decide +kernel
theorem f_59_17 : zft 59 17 = some (1, .aload_n 0) := by decide +kernel
theorem f_59_18 : zft 59 18 = some (3, .getfield 15) := by decide +kernel
theorem f_59_21 : zft 59 21 = some (1, .iload_n 1) := by decide +kernel
theorem f_59_22 : zft 59 22 = some (1, .iaload) := by decide +kernel
theorem f_59_23 : zft 59 23 = some (1, .iconst (-1)) := by decide +kernel
theorem f_59_24 : zft 59 24 = some (3, .if_icmp .ne 8) := by decide +kernel
theorem f_59_27 : zft 59 27 = some (2, .bipush (-104)) := by decide +kernel
theorem f_59_29 : zft 59 29 = some (3, .goto 12) := by decide +kernel
theorem f_59_32 : zft 59 32 = some (2, .bipush 20) := by decide +kernel
theorem f_59_34 : zft 59 34 = some (1, .aload_n 0) := by decide +kernel
theorem f_59_35 : zft 59 35 = some (3, .getfield 15) := by decide +kernel
theorem f_59_38 : zft 59 38 = some (1, .iload_n 1) := by decide +kernel
theorem f_59_39 : zft 59 39 = some (1, .iaload) := by decide +kernel
theorem f_59_40 : zft 59 40 = some (1, .iadd) := by decide +kernel
theorem f_59_41 : zft 59 41 = some (1, .ireturn) := by decide +kernel
theorem f_60_0 : zft 60 0 = some (1, .aload_n 0) := by decide +kernel
theorem f_60_1 : zft 60 1 = some (3, .getfield 9) := by decide +kernel
theorem f_60_4 : zft 60 4 = some (1, .iload_n 2) := by decide +kernel
theorem f_60_5 : zft 60 5 = some (1, .iaload) := by decide +kernel
theorem f_60_6 : zft 60 6 = some (1, .iconst (-1)) := by decide +kernel
theorem f_60_7 : zft 60 7 = some (3, .if_icmp .eq 15) := by decide +kernel
theorem f_60_10 : zft 60 10 = some (1, .aload_n 1) := by decide +kernel
theorem f_60_11 : zft 60 11 = some (1, .aload_n 0) := by decide +kernel
theorem f_60_12 : zft 60 12 = some (3, .getfield 9) := by decide +kernel
theorem f_60_15 : zft 60 15 = some (1, .iload_n 2) := by decide +kernel
theorem f_60_16 : zft 60 16 = some (1, .iaload) := by decide +kernel
theorem f_60_17 : zft 60 17 = some (1, .iload_n 2) := by decide +kernel
theorem f_60_18 : zft 60 18 = some (3, .invokestatic 107) := by decide +kernel
theorem f_60_21 : zft 60 21 = some (1, .ireturn) := by decide +kernel
theorem f_60_22 : zft 60 22 = some (1, .aload_n 0) := by decide +kernel
theorem f_60_23 : zft 60 23 = some (3, .getfield 15) := by decide +kernel
theorem f_60_26 : zft 60 26 = some (1, .iload_n 2) := by decide +kernel
theorem f_60_27 : zft 60 27 = some (1, .iaload) := by decide +kernel
theorem f_60_28 : zft 60 28 = some (1, .iconst (-1)) := by decide +kernel
theorem f_60_29 : zft 60 29 = some (3, .if_icmp .ne 6) := by decide +kernel
theorem f_60_32 : zft 60 32 = some (2, .bipush 35) := by decide +kernel
theorem f_60_34 : zft 60 34 = some (1, .ireturn) := by decide +kernel
theorem f_60_35 : zft 60 35 = some (1, .aload_n 0) := by decide +kernel
theorem f_60_36 : zft 60 36 = some (3, .getfield 18) := by decide +kernel
theorem f_60_39 : zft 60 39 = some (1, .iload_n 2) := by decide +kernel
theorem f_60_40 : zft 60 40 = some (1, .iaload) := by decide +kernel
theorem f_60_41 : zft 60 41 = some (1, .iconst (-1)) := by decide +kernel
theorem f_60_42 : zft 60 42 = some (3, .if_icmp .ne 8) := by decide +kernel
theorem f_60_45 : zft 60 45 = some (2, .bipush 43) := by decide +kernel
theorem f_60_47 : zft 60 47 = some (3, .goto 12) := by decide +kernel
theorem f_60_50 : zft 60 50 = some (2, .bipush 97) := by decide +kernel
theorem f_60_52 : zft 60 52 = some (1, .aload_n 0) := by decide +kernel
theorem f_60_53 : zft 60 53 = some (3, .getfield 18) := by decide +kernel
theorem f_60_56 : zft 60 56 = some (1, .iload_n 2) := by decide +kernel
theorem f_60_57 : zft 60 57 = some (1, .iaload) := by decide +kernel
theorem f_60_58 : zft 60 58 = some (1, .iadd) := by decide +kernel
theorem f_60_59 : zft 60 59 = some (1, .ireturn) := by decide +kernel
theorem f_61_0 : zft 61 0 = some (1, .iload_n 2) := by decide +kernel
theorem f_61_1 : zft 61 1 = some (1, .aload_n 0) := by decide +kernel
theorem f_61_2 : zft 61 2 = some (1, .iload_n 1) := by decide +kernel
theorem f_61_3 : zft 61 3 = some (3, .invokevirtual 84) := by decide +kernel
theorem f_61_6 : zft 61 6 = some (1, .aload_n 0) := by decide +kernel
theorem f_61_7 : zft 61 7 = some (1, .iload_n 1) := by decide +kernel
theorem f_61_8 : zft 61 8 = some (3, .invokevirtual 88) := by decide +kernel
theorem f_61_11 : zft 61 11 = some (3, .invokestatic 64) := by decide +kernel
theorem f_61_14 : zft 61 14 = some (3, .if_icmp .eq 6) := by decide +kernel
theorem f_61_17 : zft 61 17 = some (2, .bipush 46) := by decide +kernel
theorem f_61_19 : zft 61 19 = some (1, .ireturn) := by decide +kernel
theorem f_61_20 : zft 61 20 = some (1, .iload_n 1) := by decide +kernel
theorem f_61_21 : zft 61 21 = some (1, .aload_n 0) := by decide +kernel
theorem f_61_22 : zft 61 22 = some (3, .getfield 110) := by decide +kernel
theorem f_61_25 : zft 61 25 = some (3, .if_icmp .ne 6) := by decide +kernel
theorem f_61_28 : zft 61 28 = some (2, .bipush 62) := by decide +kernel
theorem f_61_30 : zft 61 30 = some (1, .ireturn) := by decide +kernel
theorem f_61_31 : zft 61 31 = some (1, .aload_n 0) := by decide +kernel
theorem f_61_32 : zft 61 32 = some (3, .getfield 113) := by decide +kernel
theorem f_61_35 : zft 61 35 = some (1, .iload_n 1) := by decide +kernel
theorem f_61_36 : zft 61 36 = some (1, .iaload) := by decide +kernel
theorem f_61_37 : zft 61 37 = some (1, .iconst (-1)) := by decide +kernel
theorem f_61_38 : zft 61 38 = some (3, .if_icmp .ne 8) := by decide +kernel
theorem f_61_41 : zft 61 41 = some (2, .bipush 111) := by decide +kernel
theorem f_61_43 : zft 61 43 = some (3, .goto 12) := by decide +kernel
theorem f_61_46 : zft 61 46 = some (2, .bipush 48) := by decide +kernel
theorem f_61_48 : zft 61 48 = some (1, .aload_n 0) := by decide +kernel
theorem f_61_49 : zft 61 49 = some (3, .getfield 113) := by decide +kernel
theorem f_61_52 : zft 61 52 = some (1, .iload_n 1) := by decide +kernel
theorem f_61_53 : zft 61 53 = some (1, .iaload) := by decide +kernel
theorem f_61_54 : zft 61 54 = some (1, .iadd) := by decide +kernel
theorem f_61_55 : zft 61 55 = some (1, .ireturn) := by decide +kernel
theorem f_62_0 : zft 62 0 = some (1, .aload_n 0) := by decide +kernel
theorem f_62_1 : zft 62 1 = some (3, .getfield 21) := by decide +kernel
theorem f_62_4 : zft 62 4 = some (1, .iconst (-1)) := by decide +kernel
theorem f_62_5 : zft 62 5 = some (3, .invokestatic 31) := by decide +kernel
theorem f_62_8 : zft 62 8 = some (1, .aload_n 0) := by decide +kernel
theorem f_62_9 : zft 62 9 = some (1, .iconst 0) := by decide +kernel
theorem f_62_10 : zft 62 10 = some (3, .putfield 27) := by decide +kernel
theorem f_62_13 : zft 62 13 = some (1, .aload_n 0) := by decide +kernel
theorem f_62_14 : zft 62 14 = some (1, .iload_n 1) := by decide +kernel
theorem f_62_15 : zft 62 15 = some (1, .iconst 0) := by decide +kernel
theorem f_62_16 : zft 62 16 = some (3, .invokevirtual 116) := by decide +kernel
theorem f_62_19 : zft 62 19 = some (1, .iconst 0) := by decide +kernel
theorem f_62_20 : zft 62 20 = some (1, .istore_n 3) := by decide +kernel
theorem f_62_21 : zft 62 21 = some (1, .iload_n 3) := by decide +kernel
theorem f_62_22 : zft 62 22 = some (3, .sipush 384) := by decide +kernel
theorem f_62_25 : zft 62 25 = some (3, .if_icmp .ge 114) := by decide +kernel
theorem f_62_28 : zft 62 28 = some (1, .iload_n 3) := by decide +kernel
theorem f_62_29 : zft 62 29 = some (1, .aload_n 0) := by decide +kernel
theorem f_62_30 : zft 62 30 = some (3, .getfield 27) := by decide +kernel
theorem f_62_33 : zft 62 33 = some (3, .if_icmp .ge 106) := by decide +kernel
theorem f_62_36 : zft 62 36 = some (1, .aload_n 0) := by decide +kernel
theorem f_62_37 : zft 62 37 = some (3, .getfield 24) := by decide +kernel
theorem f_62_40 : zft 62 40 = some (1, .iload_n 3) := by decide +kernel
theorem f_62_41 : zft 62 41 = some (1, .iaload) := by decide +kernel
theorem f_62_42 : zft 62 42 = some (2, .bipush 24) := by decide +kernel
theorem f_62_44 : zft 62 44 = some (1, .irem) := by decide +kernel
theorem f_62_45 : zft 62 45 = some (2, .istore 4) := by decide +kernel
theorem f_62_47 : zft 62 47 = some (1, .aload_n 0) := by decide +kernel
theorem f_62_48 : zft 62 48 = some (3, .getfield 24) := by decide +kernel
theorem f_62_51 : zft 62 51 = some (1, .iload_n 3) := by decide +kernel
theorem f_62_52 : zft 62 52 = some (1, .iaload) := by decide +kernel
theorem f_62_53 : zft 62 53 = some (2, .bipush 24) := by decide +kernel
theorem f_62_55 : zft 62 55 = some (1, .idiv) := by decide +kernel
theorem f_62_56 : zft 62 56 = some (2, .istore 5) := by decide +kernel
theorem f_62_58 : zft 62 58 = some (1, .aload_n 0) := by decide +kernel
theorem f_62_59 : zft 62 59 = some (3, .getfield 21) := by decide +kernel
theorem f_62_62 : zft 62 62 = some (1, .aload_n 0) := by decide +kernel
theorem f_62_63 : zft 62 63 = some (3, .getfield 24) := by decide +kernel
theorem f_62_66 : zft 62 66 = some (1, .iload_n 3) := by decide +kernel
theorem f_62_67 : zft 62 67 = some (1, .iaload) := by decide +kernel
theorem f_62_68 : zft 62 68 = some (1, .iaload) := by decide +kernel
theorem f_62_69 : zft 62 69 = some (1, .iconst 1) := by decide +kernel
theorem f_62_70 : zft 62 70 = some (1, .iadd) := by decide +kernel
theorem f_62_71 : zft 62 71 = some (2, .istore 6) := by decide +kernel
theorem f_62_73 : zft 62 73 = some (1, .aload_n 0) := by decide +kernel
theorem f_62_74 : zft 62 74 = some (2, .iload 4) := by decide +kernel
theorem f_62_76 : zft 62 76 = some (1, .iconst 1) := by decide +kernel
theorem f_62_77 : zft 62 77 = some (1, .isub) := by decide +kernel
theorem f_62_78 : zft 62 78 = some (2, .iload 5) := by decide +kernel
theorem f_62_80 : zft 62 80 = some (3, .invokestatic 64) := by decide +kernel
theorem f_62_83 : zft 62 83 = some (2, .iload 6) := by decide +kernel
theorem f_62_85 : zft 62 85 = some (3, .invokevirtual 116) := by decide +kernel
theorem f_62_88 : zft 62 88 = some (1, .aload_n 0) := by decide +kernel
theorem f_62_89 : zft 62 89 = some (2, .iload 4) := by decide +kernel
theorem f_62_91 : zft 62 91 = some (1, .iconst 1) := by decide +kernel
theorem f_62_92 : zft 62 92 = some (1, .iadd) := by decide +kernel
theorem f_62_93 : zft 62 93 = some (2, .iload 5) := by decide +kernel
theorem f_62_95 : zft 62 95 = some (3, .invokestatic 64) := by decide +kernel
theorem f_62_98 : zft 62 98 = some (2, .iload 6) := by decide +kernel
theorem f_62_100 : zft 62 100 = some (3, .invokevirtual 116) := by decide +kernel
theorem f_62_103 : zft 62 103 = some (1, .aload_n 0) := by decide +kernel
theorem f_62_104 : zft 62 104 = some (2, .iload 4) := by decide +kernel
theorem f_62_106 : zft 62 106 = some (2, .iload 5) := by decide +kernel
theorem f_62_108 : zft 62 108 = some (1, .iconst 1) := by decide +kernel
theorem f_62_109 : zft 62 109 = some (1, .isub) := by decide +kernel
theorem f_62_110 : zft 62 110 = some (3, .invokestatic 64) := by decide +kernel
theorem f_62_113 : zft 62 113 = some (2, .iload 6) := by decide +kernel
theorem f_62_115 : zft 62 115 = some (3, .invokevirtual 116) := by decide +kernel
theorem f_62_118 : zft 62 118 = some (1, .aload_n 0) := by decide +kernel
theorem f_62_119 : zft 62 119 = some (2, .iload 4) := by decide +kernel
theorem f_62_121 : zft 62 121 = some (2, .iload 5) := by decide +kernel
theorem f_62_123 : zft 62 123 = some (1, .iconst 1) := by decide +kernel
theorem f_62_124 : zft 62 124 = some (1, .iadd) := by decide +kernel
theorem f_62_125 : zft 62 125 = some (3, .invokestatic 64) := by decide +kernel
theorem f_62_128 : zft 62 128 = some (2, .iload 6) := by decide +kernel
theorem f_62_130 : zft 62 130 = some (3, .invokevirtual 116) := by decide +kernel
theorem f_62_133 : zft 62 133 = some (3, .iinc 3 1) := by decide +kernel
theorem f_62_136 : zft 62 136 = some (3, .goto (-115)) := by decide +kernel
theorem f_62_139 : zft 62 139 = some (1, .aload_n 0) := by decide +kernel
theorem f_62_140 : zft 62 140 = some (3, .getfield 21) := by decide +kernel
theorem f_62_143 : zft 62 143 = some (1, .iload_n 2) := by decide +kernel
theorem f_62_144 : zft 62 144 = some (1, .iaload) := by decide +kernel
theorem f_62_145 : zft 62 145 = some (1, .iconst (-1)) := by decide +kernel
theorem f_62_146 : zft 62 146 = some (3, .if_icmp .ne 8) := by decide +kernel
theorem f_62_149 : zft 62 149 = some (2, .bipush (-104)) := by decide +kernel
theorem f_62_151 : zft 62 151 = some (3, .goto 9) := by decide +kernel
theorem f_62_154 : zft 62 154 = some (1, .aload_n 0) := by decide +kernel
theorem f_62_155 : zft 62 155 = some (3, .getfield 21) := by decide +kernel
theorem f_62_158 : zft 62 158 = some (1, .iload_n 2) := by decide +kernel
theorem f_62_159 : zft 62 159 = some (1, .iaload) := by decide +kernel
theorem f_62_160 : zft 62 160 = some (1, .ireturn) := by decide +kernel
theorem f_63_0 : zft 63 0 = some (1, .iload_n 1) := by decide +kernel
theorem f_63_1 : zft 63 1 = some (1, .iconst (-1)) := by decide +kernel
theorem f_63_2 : zft 63 2 = some (3, .if_icmp .eq 58) := by decide +kernel
theorem f_63_5 : zft 63 5 = some (1, .aload_n 0) := by decide +kernel
theorem f_63_6 : zft 63 6 = some (3, .getfield 27) := by decide +kernel
theorem f_63_9 : zft 63 9 = some (3, .sipush 384) := by decide +kernel
theorem f_63_12 : zft 63 12 = some (3, .if_icmp .ge 48) := by decide +kernel
theorem f_63_15 : zft 63 15 = some (1, .aload_n 0) := by decide +kernel
theorem f_63_16 : zft 63 16 = some (1, .iload_n 1) := by decide +kernel
theorem f_63_17 : zft 63 17 = some (3, .invokevirtual 120) := by decide +kernel
theorem f_63_20 : zft 63 20 = some (3, .ifCond .eq 40) := by decide +kernel
theorem f_63_23 : zft 63 23 = some (1, .aload_n 0) := by decide +kernel
theorem f_63_24 : zft 63 24 = some (3, .getfield 21) := by decide +kernel
theorem f_63_27 : zft 63 27 = some (1, .iload_n 1) := by decide +kernel
theorem f_63_28 : zft 63 28 = some (1, .iaload) := by decide +kernel
theorem f_63_29 : zft 63 29 = some (1, .iconst (-1)) := by decide +kernel
theorem f_63_30 : zft 63 30 = some (3, .if_icmp .ne 30) := by decide +kernel
theorem f_63_33 : zft 63 33 = some (1, .aload_n 0) := by decide +kernel
theorem f_63_34 : zft 63 34 = some (3, .getfield 21) := by decide +kernel
theorem f_63_37 : zft 63 37 = some (1, .iload_n 1) := by decide +kernel
theorem f_63_38 : zft 63 38 = some (1, .iload_n 2) := by decide +kernel
theorem f_63_39 : zft 63 39 = some (1, .iastore) := by decide +kernel
theorem f_63_40 : zft 63 40 = some (1, .aload_n 0) := by decide +kernel
theorem f_63_41 : zft 63 41 = some (3, .getfield 24) := by decide +kernel
theorem f_63_44 : zft 63 44 = some (1, .aload_n 0) := by decide +kernel
theorem f_63_45 : zft 63 45 = some (3, .getfield 27) := by decide +kernel
theorem f_63_48 : zft 63 48 = some (1, .iload_n 1) := by decide +kernel
theorem f_63_49 : zft 63 49 = some (1, .iastore) := by decide +kernel
theorem f_63_50 : zft 63 50 = some (1, .aload_n 0) := by decide +kernel
theorem f_63_51 : zft 63 51 = some (1, .dup) := by decide +kernel
theorem f_63_52 : zft 63 52 = some (3, .getfield 27) := by decide +kernel
theorem f_63_55 : zft 63 55 = some (1, .iconst 1) := by decide +kernel
theorem f_63_56 : zft 63 56 = some (1, .iadd) := by decide +kernel
theorem f_63_57 : zft 63 57 = some (3, .putfield 27) := by decide +kernel
theorem f_63_60 : zft 63 60 = some (1, .return_) := by decide +kernel
theorem f_64_0 : zft 64 0 = some (1, .aload_n 0) := by decide +kernel
theorem f_64_1 : zft 64 1 = some (3, .invokespecial 5) := by decide +kernel
theorem f_64_4 : zft 64 4 = some (1, .aload_n 0) := by decide +kernel
theorem f_64_5 : zft 64 5 = some (2, .bipush 7) := by decide +kernel
theorem f_64_7 : zft 64 7 = some (3, .anewarray 11) := by decide +kernel
theorem f_64_10 : zft 64 10 = some (3, .putfield 13) := by decide +kernel
theorem f_64_13 : zft 64 13 = some (1, .aload_n 0) := by decide +kernel
theorem f_64_14 : zft 64 14 = some (1, .iconst 0) := by decide +kernel
theorem f_64_15 : zft 64 15 = some (3, .putfield 17) := by decide +kernel
theorem f_64_18 : zft 64 18 = some (1, .aload_n 0) := by decide +kernel
theorem f_64_19 : zft 64 19 = some (1, .iconst 0) := by decide +kernel
theorem f_64_20 : zft 64 20 = some (3, .putfield 21) := by decide +kernel
theorem f_64_23 : zft 64 23 = some (1, .iconst 0) := by decide +kernel
theorem f_64_24 : zft 64 24 = some (1, .istore_n 1) := by decide +kernel
theorem f_64_25 : zft 64 25 = some (1, .iload_n 1) := by decide +kernel
theorem f_64_26 : zft 64 26 = some (2, .bipush 7) := by decide +kernel
theorem f_64_28 : zft 64 28 = some (3, .if_icmp .ge 22) := by decide +kernel
theorem f_64_31 : zft 64 31 = some (1, .aload_n 0) := by decide +kernel
theorem f_64_32 : zft 64 32 = some (3, .getfield 13) := by decide +kernel
theorem f_64_35 : zft 64 35 = some (1, .iload_n 1) := by decide +kernel
theorem f_64_36 : zft 64 36 = some (3, .new 11) := by decide +kernel
theorem f_64_39 : zft 64 39 = some (1, .dup) := by decide +kernel
theorem f_64_40 : zft 64 40 = some (3, .invokespecial 24) := by decide +kernel
theorem f_64_43 : zft 64 43 = some (1, .aastore) := by decide +kernel
theorem f_64_44 : zft 64 44 = some (3, .iinc 1 1) := by decide +kernel
theorem f_64_47 : zft 64 47 = some (3, .goto (-22)) := by decide +kernel
theorem f_64_50 : zft 64 50 = some (1, .return_) := by decide +kernel
theorem f_65_0 : zft 65 0 = some (1, .aload_n 0) := by decide +kernel
theorem f_65_1 : zft 65 1 = some (3, .getfield 13) := by decide +kernel
theorem f_65_4 : zft 65 4 = some (1, .aload_n 0) := by decide +kernel
theorem f_65_5 : zft 65 5 = some (3, .getfield 17) := by decide +kernel
theorem f_65_8 : zft 65 8 = some (1, .aaload) := by decide +kernel
theorem f_65_9 : zft 65 9 = some (1, .aload_n 1) := by decide +kernel
theorem f_65_10 : zft 65 10 = some (3, .invokevirtual 25) := by decide +kernel
theorem f_65_13 : zft 65 13 = some (1, .return_) := by decide +kernel
theorem f_66_0 : zft 66 0 = some (1, .aload_n 0) := by decide +kernel
theorem f_66_1 : zft 66 1 = some (1, .aload_n 0) := by decide +kernel
theorem f_66_2 : zft 66 2 = some (3, .getfield 17) := by decide +kernel
theorem f_66_5 : zft 66 5 = some (1, .iconst 1) := by decide +kernel
theorem f_66_6 : zft 66 6 = some (1, .iadd) := by decide +kernel
theorem f_66_7 : zft 66 7 = some (2, .bipush 7) := by decide +kernel
theorem f_66_9 : zft 66 9 = some (1, .irem) := by decide +kernel
theorem f_66_10 : zft 66 10 = some (3, .putfield 17) := by decide +kernel
theorem f_66_13 : zft 66 13 = some (1, .aload_n 0) := by decide +kernel
theorem f_66_14 : zft 66 14 = some (1, .aload_n 0) := by decide +kernel
theorem f_66_15 : zft 66 15 = some (3, .getfield 21) := by decide +kernel
theorem f_66_18 : zft 66 18 = some (1, .iconst 1) := by decide +kernel
theorem f_66_19 : zft 66 19 = some (1, .iadd) := by decide +kernel
theorem f_66_20 : zft 66 20 = some (2, .bipush 6) := by decide +kernel
theorem f_66_22 : zft 66 22 = some (3, .invokestatic 29) := by decide +kernel
theorem f_66_25 : zft 66 25 = some (3, .putfield 21) := by decide +kernel
theorem f_66_28 : zft 66 28 = some (1, .return_) := by decide +kernel
theorem f_67_0 : zft 67 0 = some (1, .aload_n 1) := by decide +kernel
theorem f_67_1 : zft 67 1 = some (1, .aload_n 0) := by decide +kernel
theorem f_67_2 : zft 67 2 = some (3, .getfield 13) := by decide +kernel
theorem f_67_5 : zft 67 5 = some (1, .aload_n 0) := by decide +kernel
theorem f_67_6 : zft 67 6 = some (3, .getfield 17) := by decide +kernel
theorem f_67_9 : zft 67 9 = some (1, .aaload) := by decide +kernel
theorem f_67_10 : zft 67 10 = some (3, .invokevirtual 25) := by decide +kernel
theorem f_67_13 : zft 67 13 = some (1, .return_) := by decide +kernel
theorem f_68_0 : zft 68 0 = some (1, .aload_n 0) := by decide +kernel
theorem f_68_1 : zft 68 1 = some (3, .getfield 21) := by decide +kernel
theorem f_68_4 : zft 68 4 = some (3, .ifCond .ne 6) := by decide +kernel
theorem f_68_7 : zft 68 7 = some (2, .bipush (-104)) := by decide +kernel
theorem f_68_9 : zft 68 9 = some (1, .ireturn) := by decide +kernel
theorem f_68_10 : zft 68 10 = some (1, .aload_n 0) := by decide +kernel
theorem f_68_11 : zft 68 11 = some (1, .dup) := by decide +kernel
theorem f_68_12 : zft 68 12 = some (3, .getfield 21) := by decide +kernel
theorem f_68_15 : zft 68 15 = some (1, .iconst 1) := by decide +kernel
theorem f_68_16 : zft 68 16 = some (1, .isub) := by decide +kernel
theorem f_68_17 : zft 68 17 = some (3, .putfield 21) := by decide +kernel
theorem f_68_20 : zft 68 20 = some (1, .aload_n 0) := by decide +kernel
theorem f_68_21 : zft 68 21 = some (1, .aload_n 0) := by decide +kernel
theorem f_68_22 : zft 68 22 = some (3, .getfield 17) := by decide +kernel
theorem f_68_25 : zft 68 25 = some (2, .bipush 7) := by decide +kernel
theorem f_68_27 : zft 68 27 = some (1, .iadd) := by decide +kernel
theorem f_68_28 : zft 68 28 = some (1, .iconst 1) := by decide +kernel
theorem f_68_29 : zft 68 29 = some (1, .isub) := by decide +kernel
theorem f_68_30 : zft 68 30 = some (2, .bipush 7) := by decide +kernel
theorem f_68_32 : zft 68 32 = some (1, .irem) := by decide +kernel
theorem f_68_33 : zft 68 33 = some (3, .putfield 17) := by decide +kernel
theorem f_68_36 : zft 68 36 = some (1, .aload_n 1) := by decide +kernel
theorem f_68_37 : zft 68 37 = some (1, .aload_n 0) := by decide +kernel
theorem f_68_38 : zft 68 38 = some (3, .getfield 13) := by decide +kernel
theorem f_68_41 : zft 68 41 = some (1, .aload_n 0) := by decide +kernel
theorem f_68_42 : zft 68 42 = some (3, .getfield 17) := by decide +kernel
theorem f_68_45 : zft 68 45 = some (1, .aaload) := by decide +kernel
theorem f_68_46 : zft 68 46 = some (3, .invokevirtual 25) := by decide +kernel
theorem f_68_49 : zft 68 49 = some (1, .aload_n 0) := by decide +kernel
theorem f_68_50 : zft 68 50 = some (3, .getfield 21) := by decide +kernel
theorem f_68_53 : zft 68 53 = some (1, .ireturn) := by decide +kernel
theorem f_69_0 : zft 69 0 = some (1, .aload_n 0) := by decide +kernel
theorem f_69_1 : zft 69 1 = some (1, .iconst 0) := by decide +kernel
theorem f_69_2 : zft 69 2 = some (3, .putfield 21) := by decide +kernel
theorem f_69_5 : zft 69 5 = some (1, .return_) := by decide +kernel
theorem f_70_0 : zft 70 0 = some (1, .aload_n 0) := by decide +kernel
theorem f_70_1 : zft 70 1 = some (3, .invokespecial 3) := by decide +kernel
theorem f_70_4 : zft 70 4 = some (1, .aload_n 0) := by decide +kernel
theorem f_70_5 : zft 70 5 = some (2, .bipush 12) := by decide +kernel
theorem f_70_7 : zft 70 7 = some (2, .newarray .int) := by decide +kernel
theorem f_70_9 : zft 70 9 = some (3, .putfield 9) := by decide +kernel
theorem f_70_12 : zft 70 12 = some (1, .return_) := by decide +kernel
theorem f_71_0 : zft 71 0 = some (1, .aload_n 1) := by decide +kernel
theorem f_71_1 : zft 71 1 = some (3, .invokestatic 15) := by decide +kernel
theorem f_71_4 : zft 71 4 = some (1, .istore_n 2) := by decide +kernel
theorem f_71_5 : zft 71 5 = some (1, .iload_n 2) := by decide +kernel
theorem f_71_6 : zft 71 6 = some (1, .iconst (-1)) := by decide +kernel
theorem f_71_7 : zft 71 7 = some (3, .if_icmp .ne 6) := by decide +kernel
theorem f_71_10 : zft 71 10 = some (2, .bipush (-104)) := by decide +kernel
theorem f_71_12 : zft 71 12 = some (1, .ireturn) := by decide +kernel
theorem f_71_13 : zft 71 13 = some (1, .aload_n 1) := by decide +kernel
theorem f_71_14 : zft 71 14 = some (3, .invokestatic 19) := by decide +kernel
theorem f_71_17 : zft 71 17 = some (1, .istore_n 3) := by decide +kernel
theorem f_71_18 : zft 71 18 = some (1, .iload_n 3) := by decide +kernel
theorem f_71_19 : zft 71 19 = some (1, .iconst (-1)) := by decide +kernel
theorem f_71_20 : zft 71 20 = some (3, .if_icmp .ne 6) := by decide +kernel
theorem f_71_23 : zft 71 23 = some (2, .bipush (-103)) := by decide +kernel
theorem f_71_25 : zft 71 25 = some (1, .ireturn) := by decide +kernel
theorem f_71_26 : zft 71 26 = some (1, .aload_n 0) := by decide +kernel
theorem f_71_27 : zft 71 27 = some (1, .aload_n 1) := by decide +kernel
theorem f_71_28 : zft 71 28 = some (1, .iload_n 2) := by decide +kernel
theorem f_71_29 : zft 71 29 = some (3, .invokevirtual 22) := by decide +kernel
theorem f_71_32 : zft 71 32 = some (2, .istore 4) := by decide +kernel
theorem f_71_34 : zft 71 34 = some (2, .iload 4) := by decide +kernel
theorem f_71_36 : zft 71 36 = some (1, .iconst (-1)) := by decide +kernel
theorem f_71_37 : zft 71 37 = some (3, .if_icmp .ne 6) := by decide +kernel
theorem f_71_40 : zft 71 40 = some (2, .bipush (-105)) := by decide +kernel
theorem f_71_42 : zft 71 42 = some (1, .ireturn) := by decide +kernel
theorem f_71_43 : zft 71 43 = some (1, .aload_n 1) := by decide +kernel
theorem f_71_44 : zft 71 44 = some (3, .getfield 26) := by decide +kernel
theorem f_71_47 : zft 71 47 = some (1, .iload_n 2) := by decide +kernel
theorem f_71_48 : zft 71 48 = some (1, .iload_n 3) := by decide +kernel
theorem f_71_49 : zft 71 49 = some (1, .iastore) := by decide +kernel
theorem f_71_50 : zft 71 50 = some (1, .aload_n 1) := by decide +kernel
theorem f_71_51 : zft 71 51 = some (3, .getfield 31) := by decide +kernel
theorem f_71_54 : zft 71 54 = some (2, .iload 4) := by decide +kernel
theorem f_71_56 : zft 71 56 = some (1, .iload_n 3) := by decide +kernel
theorem f_71_57 : zft 71 57 = some (1, .iastore) := by decide +kernel
theorem f_71_58 : zft 71 58 = some (1, .iload_n 2) := by decide +kernel
theorem f_71_59 : zft 71 59 = some (1, .ireturn) := by decide +kernel
theorem f_72_0 : zft 72 0 = some (1, .iconst (-1)) := by decide +kernel
theorem f_72_1 : zft 72 1 = some (1, .istore_n 1) := by decide +kernel
theorem f_72_2 : zft 72 2 = some (1, .iconst 0) := by decide +kernel
theorem f_72_3 : zft 72 3 = some (1, .istore_n 2) := by decide +kernel
theorem f_72_4 : zft 72 4 = some (1, .iconst 0) := by decide +kernel
theorem f_72_5 : zft 72 5 = some (1, .istore_n 3) := by decide +kernel
theorem f_72_6 : zft 72 6 = some (1, .iload_n 3) := by decide +kernel
theorem f_72_7 : zft 72 7 = some (1, .aload_n 0) := by decide +kernel
theorem f_72_8 : zft 72 8 = some (3, .getfield 34) := by decide +kernel
theorem f_72_11 : zft 72 11 = some (3, .if_icmp .ge 64) := by decide +kernel
theorem f_72_14 : zft 72 14 = some (1, .aload_n 0) := by decide +kernel
theorem f_72_15 : zft 72 15 = some (1, .iload_n 3) := by decide +kernel
theorem f_72_16 : zft 72 16 = some (3, .invokestatic 38) := by decide +kernel
theorem f_72_19 : zft 72 19 = some (3, .invokestatic 43) := by decide +kernel
theorem f_72_22 : zft 72 22 = some (2, .istore 4) := by decide +kernel
theorem f_72_24 : zft 72 24 = some (1, .iconst 2) := by decide +kernel
theorem f_72_25 : zft 72 25 = some (2, .iload 4) := by decide +kernel
theorem f_72_27 : zft 72 27 = some (1, .imul) := by decide +kernel
theorem f_72_28 : zft 72 28 = some (1, .aload_n 0) := by decide +kernel
theorem f_72_29 : zft 72 29 = some (3, .getfield 49) := by decide +kernel
theorem f_72_32 : zft 72 32 = some (1, .isub) := by decide +kernel
theorem f_72_33 : zft 72 33 = some (3, .invokestatic 52) := by decide +kernel
theorem f_72_36 : zft 72 36 = some (2, .istore 5) := by decide +kernel
theorem f_72_38 : zft 72 38 = some (1, .aload_n 0) := by decide +kernel
theorem f_72_39 : zft 72 39 = some (3, .getfield 26) := by decide +kernel
theorem f_72_42 : zft 72 42 = some (1, .iload_n 3) := by decide +kernel
theorem f_72_43 : zft 72 43 = some (1, .iaload) := by decide +kernel
theorem f_72_44 : zft 72 44 = some (1, .iconst (-1)) := by decide +kernel
theorem f_72_45 : zft 72 45 = some (3, .if_icmp .ne 24) := by decide +kernel
theorem f_72_48 : zft 72 48 = some (2, .iload 4) := by decide +kernel
theorem f_72_50 : zft 72 50 = some (3, .ifCond .le 19) := by decide +kernel
theorem f_72_53 : zft 72 53 = some (1, .iload_n 1) := by decide +kernel
theorem f_72_54 : zft 72 54 = some (1, .iconst (-1)) := by decide +kernel
theorem f_72_55 : zft 72 55 = some (3, .if_icmp .eq 9) := by decide +kernel
theorem f_72_58 : zft 72 58 = some (2, .iload 5) := by decide +kernel
theorem f_72_60 : zft 72 60 = some (1, .iload_n 2) := by decide +kernel
theorem f_72_61 : zft 72 61 = some (3, .if_icmp .ge 8) := by decide +kernel
theorem f_72_64 : zft 72 64 = some (1, .iload_n 3) := by decide +kernel
theorem f_72_65 : zft 72 65 = some (1, .istore_n 1) := by decide +kernel
theorem f_72_66 : zft 72 66 = some (2, .iload 5) := by decide +kernel
theorem f_72_68 : zft 72 68 = some (1, .istore_n 2) := by decide +kernel
theorem f_72_69 : zft 72 69 = some (3, .iinc 3 1) := by decide +kernel
theorem f_72_72 : zft 72 72 = some (3, .goto (-66)) := by decide +kernel
theorem f_72_75 : zft 72 75 = some (1, .iload_n 1) := by decide +kernel
theorem f_72_76 : zft 72 76 = some (1, .ireturn) := by decide +kernel
theorem f_73_0 : zft 73 0 = some (1, .iconst 0) := by decide +kernel
theorem f_73_1 : zft 73 1 = some (1, .istore_n 1) := by decide +kernel
theorem f_73_2 : zft 73 2 = some (1, .iconst 0) := by decide +kernel
theorem f_73_3 : zft 73 3 = some (1, .istore_n 2) := by decide +kernel
theorem f_73_4 : zft 73 4 = some (1, .iload_n 2) := by decide +kernel
theorem f_73_5 : zft 73 5 = some (1, .aload_n 0) := by decide +kernel
theorem f_73_6 : zft 73 6 = some (3, .getfield 49) := by decide +kernel
theorem f_73_9 : zft 73 9 = some (3, .if_icmp .ge 17) := by decide +kernel
theorem f_73_12 : zft 73 12 = some (1, .iload_n 1) := by decide +kernel
theorem f_73_13 : zft 73 13 = some (1, .aload_n 0) := by decide +kernel
theorem f_73_14 : zft 73 14 = some (1, .iload_n 2) := by decide +kernel
theorem f_73_15 : zft 73 15 = some (3, .invokevirtual 57) := by decide +kernel
theorem f_73_18 : zft 73 18 = some (1, .ior) := by decide +kernel
theorem f_73_19 : zft 73 19 = some (1, .istore_n 1) := by decide +kernel
theorem f_73_20 : zft 73 20 = some (3, .iinc 2 1) := by decide +kernel
theorem f_73_23 : zft 73 23 = some (3, .goto (-19)) := by decide +kernel
theorem f_73_26 : zft 73 26 = some (1, .iconst 0) := by decide +kernel
theorem f_73_27 : zft 73 27 = some (1, .istore_n 2) := by decide +kernel
theorem f_73_28 : zft 73 28 = some (1, .iload_n 2) := by decide +kernel
theorem f_73_29 : zft 73 29 = some (1, .aload_n 0) := by decide +kernel
theorem f_73_30 : zft 73 30 = some (3, .getfield 34) := by decide +kernel
theorem f_73_33 : zft 73 33 = some (3, .if_icmp .ge 34) := by decide +kernel
theorem f_73_36 : zft 73 36 = some (1, .iload_n 1) := by decide +kernel
theorem f_73_37 : zft 73 37 = some (1, .aload_n 0) := by decide +kernel
theorem f_73_38 : zft 73 38 = some (3, .getfield 26) := by decide +kernel
theorem f_73_41 : zft 73 41 = some (1, .iload_n 2) := by decide +kernel
theorem f_73_42 : zft 73 42 = some (1, .iaload) := by decide +kernel
theorem f_73_43 : zft 73 43 = some (1, .iconst (-1)) := by decide +kernel
theorem f_73_44 : zft 73 44 = some (3, .if_icmp .ne 7) := by decide +kernel
theorem f_73_47 : zft 73 47 = some (1, .iconst 0) := by decide +kernel
theorem f_73_48 : zft 73 48 = some (3, .goto 11) := by decide +kernel
theorem f_73_51 : zft 73 51 = some (1, .iconst 1) := by decide +kernel
theorem f_73_52 : zft 73 52 = some (1, .aload_n 0) := by decide +kernel
theorem f_73_53 : zft 73 53 = some (3, .getfield 26) := by decide +kernel
theorem f_73_56 : zft 73 56 = some (1, .iload_n 2) := by decide +kernel
theorem f_73_57 : zft 73 57 = some (1, .iaload) := by decide +kernel
theorem f_73_58 : zft 73 58 = some (1, .ishl) := by decide +kernel
theorem f_73_59 : zft 73 59 = some (1, .ior) := by decide +kernel
theorem f_73_60 : zft 73 60 = some (1, .istore_n 1) := by decide +kernel
theorem f_73_61 : zft 73 61 = some (3, .iinc 2 1) := by decide +kernel
theorem f_73_64 : zft 73 64 = some (3, .goto (-36)) := by decide +kernel
theorem f_73_67 : zft 73 67 = some (1, .iconst 0) := by decide +kernel
theorem f_73_68 : zft 73 68 = some (1, .istore_n 2) := by decide +kernel
theorem f_73_69 : zft 73 69 = some (1, .iload_n 2) := by decide +kernel
theorem f_73_70 : zft 73 70 = some (2, .bipush 6) := by decide +kernel
theorem f_73_72 : zft 73 72 = some (3, .if_icmp .ge 19) := by decide +kernel
theorem f_73_75 : zft 73 75 = some (1, .iload_n 1) := by decide +kernel
theorem f_73_76 : zft 73 76 = some (1, .iload_n 2) := by decide +kernel
theorem f_73_77 : zft 73 77 = some (3, .invokestatic 60) := by decide +kernel
theorem f_73_80 : zft 73 80 = some (3, .ifCond .ne 5) := by decide +kernel
theorem f_73_83 : zft 73 83 = some (1, .iload_n 2) := by decide +kernel
theorem f_73_84 : zft 73 84 = some (1, .ireturn) := by decide +kernel
theorem f_73_85 : zft 73 85 = some (3, .iinc 2 1) := by decide +kernel
theorem f_73_88 : zft 73 88 = some (3, .goto (-19)) := by decide +kernel
theorem f_73_91 : zft 73 91 = some (1, .iconst (-1)) := by decide +kernel
theorem f_73_92 : zft 73 92 = some (1, .ireturn) := by decide +kernel
theorem f_74_0 : zft 74 0 = some (1, .aload_n 1) := by decide +kernel
theorem f_74_1 : zft 74 1 = some (1, .aload_n 1) := by decide +kernel
theorem f_74_2 : zft 74 2 = some (3, .invokestatic 64) := by decide +kernel
theorem f_74_5 : zft 74 5 = some (1, .iconst 0) := by decide +kernel
theorem f_74_6 : zft 74 6 = some (1, .iconst 0) := by decide +kernel
theorem f_74_7 : zft 74 7 = some (1, .iload_n 2) := by decide +kernel
theorem f_74_8 : zft 74 8 = some (3, .invokestatic 67) := by decide +kernel
theorem f_74_11 : zft 74 11 = some (1, .istore_n 3) := by decide +kernel
theorem f_74_12 : zft 74 12 = some (1, .aload_n 1) := by decide +kernel
theorem f_74_13 : zft 74 13 = some (1, .aload_n 1) := by decide +kernel
theorem f_74_14 : zft 74 14 = some (3, .getfield 71) := by decide +kernel
theorem f_74_17 : zft 74 17 = some (1, .aload_n 0) := by decide +kernel
theorem f_74_18 : zft 74 18 = some (3, .getfield 9) := by decide +kernel
theorem f_74_21 : zft 74 21 = some (3, .invokestatic 74) := by decide +kernel
theorem f_74_24 : zft 74 24 = some (1, .iconst (-1)) := by decide +kernel
theorem f_74_25 : zft 74 25 = some (2, .istore 4) := by decide +kernel
theorem f_74_27 : zft 74 27 = some (1, .iconst 0) := by decide +kernel
theorem f_74_28 : zft 74 28 = some (2, .istore 5) := by decide +kernel
theorem f_74_30 : zft 74 30 = some (2, .iload 5) := by decide +kernel
theorem f_74_32 : zft 74 32 = some (1, .aload_n 1) := by decide +kernel
theorem f_74_33 : zft 74 33 = some (3, .getfield 49) := by decide +kernel
theorem f_74_36 : zft 74 36 = some (3, .if_icmp .ge 68) := by decide +kernel
theorem f_74_39 : zft 74 39 = some (1, .iload_n 3) := by decide +kernel
theorem f_74_40 : zft 74 40 = some (2, .iload 5) := by decide +kernel
theorem f_74_42 : zft 74 42 = some (3, .invokestatic 60) := by decide +kernel
theorem f_74_45 : zft 74 45 = some (3, .ifCond .eq 18) := by decide +kernel
theorem f_74_48 : zft 74 48 = some (1, .aload_n 1) := by decide +kernel
theorem f_74_49 : zft 74 49 = some (3, .getfield 31) := by decide +kernel
theorem f_74_52 : zft 74 52 = some (2, .iload 5) := by decide +kernel
theorem f_74_54 : zft 74 54 = some (1, .iaload) := by decide +kernel
theorem f_74_55 : zft 74 55 = some (1, .iconst (-1)) := by decide +kernel
theorem f_74_56 : zft 74 56 = some (3, .if_icmp .ne 7) := by decide +kernel
theorem f_74_59 : zft 74 59 = some (1, .iconst 1) := by decide +kernel
theorem f_74_60 : zft 74 60 = some (3, .goto 4) := by decide +kernel
theorem f_74_63 : zft 74 63 = some (1, .iconst 0) := by decide +kernel
theorem f_74_64 : zft 74 64 = some (2, .istore 6) := by decide +kernel
theorem f_74_66 : zft 74 66 = some (2, .iload 6) := by decide +kernel
theorem f_74_68 : zft 74 68 = some (3, .ifCond .eq 30) := by decide +kernel
theorem f_74_71 : zft 74 71 = some (2, .iload 4) := by decide +kernel
theorem f_74_73 : zft 74 73 = some (1, .iconst (-1)) := by decide +kernel
theorem f_74_74 : zft 74 74 = some (3, .if_icmp .eq 20) := by decide +kernel
theorem f_74_77 : zft 74 77 = some (1, .aload_n 0) := by decide +kernel
theorem f_74_78 : zft 74 78 = some (3, .getfield 9) := by decide +kernel
theorem f_74_81 : zft 74 81 = some (2, .iload 5) := by decide +kernel
theorem f_74_83 : zft 74 83 = some (1, .iaload) := by decide +kernel
theorem f_74_84 : zft 74 84 = some (1, .aload_n 0) := by decide +kernel
theorem f_74_85 : zft 74 85 = some (3, .getfield 9) := by decide +kernel
theorem f_74_88 : zft 74 88 = some (2, .iload 4) := by decide +kernel
theorem f_74_90 : zft 74 90 = some (1, .iaload) := by decide +kernel
theorem f_74_91 : zft 74 91 = some (3, .if_icmp .le 7) := by decide +kernel
theorem f_74_94 : zft 74 94 = some (2, .iload 5) := by decide +kernel
theorem f_74_96 : zft 74 96 = some (2, .istore 4) := by decide +kernel
theorem f_74_98 : zft 74 98 = some (3, .iinc 5 1) := by decide +kernel
theorem f_74_101 : zft 74 101 = some (3, .goto (-71)) := by decide +kernel
theorem f_74_104 : zft 74 104 = some (2, .iload 4) := by decide +kernel
theorem f_74_106 : zft 74 106 = some (1, .ireturn) := by decide +kernel
theorem f_75_0 : zft 75 0 = some (1, .iload_n 1) := by decide +kernel
theorem f_75_1 : zft 75 1 = some (2, .istore 5) := by decide +kernel
theorem f_75_3 : zft 75 3 = some (1, .iconst 1) := by decide +kernel
theorem f_75_4 : zft 75 4 = some (2, .istore 6) := by decide +kernel
theorem f_75_6 : zft 75 6 = some (2, .iload 6) := by decide +kernel
theorem f_75_8 : zft 75 8 = some (1, .aload_n 0) := by decide +kernel
theorem f_75_9 : zft 75 9 = some (3, .getfield 9) := by decide +kernel
theorem f_75_12 : zft 75 12 = some (3, .if_icmp .ge 95) := by decide +kernel
theorem f_75_15 : zft 75 15 = some (1, .aload_n 0) := by decide +kernel
theorem f_75_16 : zft 75 16 = some (2, .iload 5) := by decide +kernel
theorem f_75_18 : zft 75 18 = some (3, .invokestatic 15) := by decide +kernel
theorem f_75_21 : zft 75 21 = some (1, .iload_n 2) := by decide +kernel
theorem f_75_22 : zft 75 22 = some (1, .iconst (-1)) := by decide +kernel
theorem f_75_23 : zft 75 23 = some (1, .ixor) := by decide +kernel
theorem f_75_24 : zft 75 24 = some (1, .iand) := by decide +kernel
theorem f_75_25 : zft 75 25 = some (1, .iload_n 3) := by decide +kernel
theorem f_75_26 : zft 75 26 = some (1, .ior) := by decide +kernel
theorem f_75_27 : zft 75 27 = some (2, .istore 7) := by decide +kernel
theorem f_75_29 : zft 75 29 = some (1, .iconst 0) := by decide +kernel
theorem f_75_30 : zft 75 30 = some (2, .istore 8) := by decide +kernel
theorem f_75_32 : zft 75 32 = some (2, .iload 8) := by decide +kernel
theorem f_75_34 : zft 75 34 = some (1, .aload_n 0) := by decide +kernel
theorem f_75_35 : zft 75 35 = some (3, .getfield 21) := by decide +kernel
theorem f_75_38 : zft 75 38 = some (3, .if_icmp .ge 63) := by decide +kernel
theorem f_75_41 : zft 75 41 = some (1, .iconst 1) := by decide +kernel
theorem f_75_42 : zft 75 42 = some (1, .aload_n 0) := by decide +kernel
theorem f_75_43 : zft 75 43 = some (3, .getfield 24) := by decide +kernel
theorem f_75_46 : zft 75 46 = some (2, .iload 8) := by decide +kernel
theorem f_75_48 : zft 75 48 = some (1, .iaload) := by decide +kernel
theorem f_75_49 : zft 75 49 = some (1, .ishl) := by decide +kernel
theorem f_75_50 : zft 75 50 = some (1, .iconst 1) := by decide +kernel
theorem f_75_51 : zft 75 51 = some (1, .aload_n 0) := by decide +kernel
theorem f_75_52 : zft 75 52 = some (3, .getfield 28) := by decide +kernel
theorem f_75_55 : zft 75 55 = some (2, .iload 8) := by decide +kernel
theorem f_75_57 : zft 75 57 = some (1, .iaload) := by decide +kernel
theorem f_75_58 : zft 75 58 = some (1, .ishl) := by decide +kernel
theorem f_75_59 : zft 75 59 = some (1, .ior) := by decide +kernel
theorem f_75_60 : zft 75 60 = some (2, .istore 9) := by decide +kernel
theorem f_75_62 : zft 75 62 = some (2, .iload 8) := by decide +kernel
theorem f_75_64 : zft 75 64 = some (2, .iload 4) := by decide +kernel
theorem f_75_66 : zft 75 66 = some (3, .if_icmp .eq 29) := by decide +kernel
theorem f_75_69 : zft 75 69 = some (2, .iload 9) := by decide +kernel
theorem f_75_71 : zft 75 71 = some (2, .iload 5) := by decide +kernel
theorem f_75_73 : zft 75 73 = some (1, .iand) := by decide +kernel
theorem f_75_74 : zft 75 74 = some (3, .ifCond .eq 21) := by decide +kernel
theorem f_75_77 : zft 75 77 = some (1, .aload_n 0) := by decide +kernel
theorem f_75_78 : zft 75 78 = some (2, .iload 8) := by decide +kernel
theorem f_75_80 : zft 75 80 = some (2, .iload 7) := by decide +kernel
theorem f_75_82 : zft 75 82 = some (3, .invokevirtual 31) := by decide +kernel
theorem f_75_85 : zft 75 85 = some (3, .ifCond .eq 10) := by decide +kernel
theorem f_75_88 : zft 75 88 = some (2, .iload 5) := by decide +kernel
theorem f_75_90 : zft 75 90 = some (2, .iload 9) := by decide +kernel
theorem f_75_92 : zft 75 92 = some (1, .ior) := by decide +kernel
theorem f_75_93 : zft 75 93 = some (2, .istore 5) := by decide +kernel
theorem f_75_95 : zft 75 95 = some (3, .iinc 8 1) := by decide +kernel
theorem f_75_98 : zft 75 98 = some (3, .goto (-66)) := by decide +kernel
theorem f_75_101 : zft 75 101 = some (3, .iinc 6 1) := by decide +kernel
theorem f_75_104 : zft 75 104 = some (3, .goto (-98)) := by decide +kernel
theorem f_75_107 : zft 75 107 = some (2, .iload 5) := by decide +kernel
theorem f_75_109 : zft 75 109 = some (1, .ireturn) := by decide +kernel
theorem f_76_0 : zft 76 0 = some (1, .aload_n 0) := by decide +kernel
theorem f_76_1 : zft 76 1 = some (1, .aload_n 0) := by decide +kernel
theorem f_76_2 : zft 76 2 = some (3, .invokestatic 35) := by decide +kernel
theorem f_76_5 : zft 76 5 = some (1, .iload_n 1) := by decide +kernel
theorem f_76_6 : zft 76 6 = some (1, .iload_n 2) := by decide +kernel
theorem f_76_7 : zft 76 7 = some (1, .iconst (-1)) := by decide +kernel
theorem f_76_8 : zft 76 8 = some (3, .invokestatic 39) := by decide +kernel
theorem f_76_11 : zft 76 11 = some (1, .ireturn) := by decide +kernel
theorem f_77_0 : zft 77 0 = some (1, .aload_n 0) := by decide +kernel
theorem f_77_1 : zft 77 1 = some (3, .getfield 9) := by decide +kernel
theorem f_77_4 : zft 77 4 = some (3, .ifCond .ne 7) := by decide +kernel
theorem f_77_7 : zft 77 7 = some (1, .iconst 0) := by decide +kernel
theorem f_77_8 : zft 77 8 = some (3, .goto 9) := by decide +kernel
theorem f_77_11 : zft 77 11 = some (1, .iconst 1) := by decide +kernel
theorem f_77_12 : zft 77 12 = some (1, .aload_n 0) := by decide +kernel
theorem f_77_13 : zft 77 13 = some (3, .getfield 43) := by decide +kernel
theorem f_77_16 : zft 77 16 = some (1, .ishl) := by decide +kernel
theorem f_77_17 : zft 77 17 = some (1, .ireturn) := by decide +kernel
theorem f_78_0 : zft 78 0 = some (1, .iconst 0) := by decide +kernel
theorem f_78_1 : zft 78 1 = some (1, .istore_n 2) := by decide +kernel
theorem f_78_2 : zft 78 2 = some (1, .iconst 0) := by decide +kernel
theorem f_78_3 : zft 78 3 = some (1, .istore_n 3) := by decide +kernel
theorem f_78_4 : zft 78 4 = some (1, .iload_n 3) := by decide +kernel
theorem f_78_5 : zft 78 5 = some (1, .aload_n 0) := by decide +kernel
theorem f_78_6 : zft 78 6 = some (3, .getfield 9) := by decide +kernel
theorem f_78_9 : zft 78 9 = some (3, .if_icmp .ge 25) := by decide +kernel
theorem f_78_12 : zft 78 12 = some (1, .iload_n 1) := by decide +kernel
theorem f_78_13 : zft 78 13 = some (1, .iload_n 3) := by decide +kernel
theorem f_78_14 : zft 78 14 = some (3, .invokestatic 46) := by decide +kernel
theorem f_78_17 : zft 78 17 = some (3, .ifCond .eq 11) := by decide +kernel
theorem f_78_20 : zft 78 20 = some (1, .iload_n 2) := by decide +kernel
theorem f_78_21 : zft 78 21 = some (1, .aload_n 0) := by decide +kernel
theorem f_78_22 : zft 78 22 = some (1, .iload_n 3) := by decide +kernel
theorem f_78_23 : zft 78 23 = some (3, .invokevirtual 49) := by decide +kernel
theorem f_78_26 : zft 78 26 = some (1, .ior) := by decide +kernel
theorem f_78_27 : zft 78 27 = some (1, .istore_n 2) := by decide +kernel
theorem f_78_28 : zft 78 28 = some (3, .iinc 3 1) := by decide +kernel
theorem f_78_31 : zft 78 31 = some (3, .goto (-27)) := by decide +kernel
theorem f_78_34 : zft 78 34 = some (1, .iload_n 2) := by decide +kernel
theorem f_78_35 : zft 78 35 = some (1, .ireturn) := by decide +kernel
theorem f_79_0 : zft 79 0 = some (1, .aload_n 0) := by decide +kernel
theorem f_79_1 : zft 79 1 = some (3, .invokestatic 35) := by decide +kernel
theorem f_79_4 : zft 79 4 = some (1, .istore_n 2) := by decide +kernel
theorem f_79_5 : zft 79 5 = some (1, .aload_n 0) := by decide +kernel
theorem f_79_6 : zft 79 6 = some (1, .iload_n 2) := by decide +kernel
theorem f_79_7 : zft 79 7 = some (1, .iconst 0) := by decide +kernel
theorem f_79_8 : zft 79 8 = some (2, .bipush 63) := by decide +kernel
theorem f_79_10 : zft 79 10 = some (1, .iconst (-1)) := by decide +kernel
theorem f_79_11 : zft 79 11 = some (3, .invokestatic 39) := by decide +kernel
theorem f_79_14 : zft 79 14 = some (1, .istore_n 3) := by decide +kernel
theorem f_79_15 : zft 79 15 = some (1, .iload_n 3) := by decide +kernel
theorem f_79_16 : zft 79 16 = some (1, .aload_n 0) := by decide +kernel
theorem f_79_17 : zft 79 17 = some (1, .iload_n 2) := by decide +kernel
theorem f_79_18 : zft 79 18 = some (1, .iconst 0) := by decide +kernel
theorem f_79_19 : zft 79 19 = some (2, .bipush 63) := by decide +kernel
theorem f_79_21 : zft 79 21 = some (1, .iload_n 1) := by decide +kernel
theorem f_79_22 : zft 79 22 = some (3, .invokestatic 39) := by decide +kernel
theorem f_79_25 : zft 79 25 = some (1, .iconst (-1)) := by decide +kernel
theorem f_79_26 : zft 79 26 = some (1, .ixor) := by decide +kernel
theorem f_79_27 : zft 79 27 = some (1, .iand) := by decide +kernel
theorem f_79_28 : zft 79 28 = some (1, .ireturn) := by decide +kernel
theorem f_80_0 : zft 80 0 = some (1, .iconst 0) := by decide +kernel
theorem f_80_1 : zft 80 1 = some (1, .istore_n 2) := by decide +kernel
theorem f_80_2 : zft 80 2 = some (1, .iconst 0) := by decide +kernel
theorem f_80_3 : zft 80 3 = some (1, .istore_n 3) := by decide +kernel
theorem f_80_4 : zft 80 4 = some (1, .iconst 0) := by decide +kernel
theorem f_80_5 : zft 80 5 = some (2, .istore 4) := by decide +kernel
theorem f_80_7 : zft 80 7 = some (2, .iload 4) := by decide +kernel
theorem f_80_9 : zft 80 9 = some (1, .aload_n 0) := by decide +kernel
theorem f_80_10 : zft 80 10 = some (3, .getfield 9) := by decide +kernel
theorem f_80_13 : zft 80 13 = some (3, .if_icmp .ge 36) := by decide +kernel
theorem f_80_16 : zft 80 16 = some (1, .iload_n 3) := by decide +kernel
theorem f_80_17 : zft 80 17 = some (2, .iload 4) := by decide +kernel
theorem f_80_19 : zft 80 19 = some (3, .invokestatic 46) := by decide +kernel
theorem f_80_22 : zft 80 22 = some (3, .ifCond .ne 21) := by decide +kernel
theorem f_80_25 : zft 80 25 = some (1, .iload_n 3) := by decide +kernel
theorem f_80_26 : zft 80 26 = some (1, .aload_n 0) := by decide +kernel
theorem f_80_27 : zft 80 27 = some (1, .iconst 1) := by decide +kernel
theorem f_80_28 : zft 80 28 = some (2, .iload 4) := by decide +kernel
theorem f_80_30 : zft 80 30 = some (1, .ishl) := by decide +kernel
theorem f_80_31 : zft 80 31 = some (1, .iconst 0) := by decide +kernel
theorem f_80_32 : zft 80 32 = some (2, .bipush 63) := by decide +kernel
theorem f_80_34 : zft 80 34 = some (1, .iload_n 1) := by decide +kernel
theorem f_80_35 : zft 80 35 = some (3, .invokestatic 39) := by decide +kernel
theorem f_80_38 : zft 80 38 = some (1, .ior) := by decide +kernel
theorem f_80_39 : zft 80 39 = some (1, .istore_n 3) := by decide +kernel
theorem f_80_40 : zft 80 40 = some (3, .iinc 2 1) := by decide +kernel
theorem f_80_43 : zft 80 43 = some (3, .iinc 4 1) := by decide +kernel
theorem f_80_46 : zft 80 46 = some (3, .goto (-39)) := by decide +kernel
theorem f_80_49 : zft 80 49 = some (1, .iload_n 2) := by decide +kernel
theorem f_80_50 : zft 80 50 = some (1, .ireturn) := by decide +kernel
theorem f_81_0 : zft 81 0 = some (1, .aload_n 0) := by decide +kernel
theorem f_81_1 : zft 81 1 = some (1, .iconst (-1)) := by decide +kernel
theorem f_81_2 : zft 81 2 = some (3, .invokestatic 53) := by decide +kernel
theorem f_81_5 : zft 81 5 = some (1, .istore_n 1) := by decide +kernel
theorem f_81_6 : zft 81 6 = some (1, .iconst 0) := by decide +kernel
theorem f_81_7 : zft 81 7 = some (1, .istore_n 2) := by decide +kernel
theorem f_81_8 : zft 81 8 = some (1, .iconst 0) := by decide +kernel
theorem f_81_9 : zft 81 9 = some (1, .istore_n 3) := by decide +kernel
theorem f_81_10 : zft 81 10 = some (1, .iload_n 3) := by decide +kernel
theorem f_81_11 : zft 81 11 = some (1, .aload_n 0) := by decide +kernel
theorem f_81_12 : zft 81 12 = some (3, .getfield 21) := by decide +kernel
theorem f_81_15 : zft 81 15 = some (3, .if_icmp .ge 21) := by decide +kernel
theorem f_81_18 : zft 81 18 = some (1, .aload_n 0) := by decide +kernel
theorem f_81_19 : zft 81 19 = some (1, .iload_n 3) := by decide +kernel
theorem f_81_20 : zft 81 20 = some (3, .invokestatic 53) := by decide +kernel
theorem f_81_23 : zft 81 23 = some (1, .iload_n 1) := by decide +kernel
theorem f_81_24 : zft 81 24 = some (3, .if_icmp .le 6) := by decide +kernel
theorem f_81_27 : zft 81 27 = some (3, .iinc 2 1) := by decide +kernel
theorem f_81_30 : zft 81 30 = some (3, .iinc 3 1) := by decide +kernel
theorem f_81_33 : zft 81 33 = some (3, .goto (-23)) := by decide +kernel
theorem f_81_36 : zft 81 36 = some (1, .iload_n 2) := by decide +kernel
theorem f_81_37 : zft 81 37 = some (1, .ireturn) := by decide +kernel
theorem f_82_0 : zft 82 0 = some (1, .aload_n 2) := by decide +kernel
theorem f_82_1 : zft 82 1 = some (1, .iconst (-1)) := by decide +kernel
theorem f_82_2 : zft 82 2 = some (3, .invokestatic 56) := by decide +kernel
theorem f_82_5 : zft 82 5 = some (1, .aload_n 0) := by decide +kernel
theorem f_82_6 : zft 82 6 = some (1, .iload_n 1) := by decide +kernel
theorem f_82_7 : zft 82 7 = some (3, .invokevirtual 62) := by decide +kernel
theorem f_82_10 : zft 82 10 = some (3, .ifCond .ne 4) := by decide +kernel
theorem f_82_13 : zft 82 13 = some (1, .return_) := by decide +kernel
theorem f_82_14 : zft 82 14 = some (1, .aload_n 2) := by decide +kernel
theorem f_82_15 : zft 82 15 = some (1, .iload_n 1) := by decide +kernel
theorem f_82_16 : zft 82 16 = some (1, .iconst 0) := by decide +kernel
theorem f_82_17 : zft 82 17 = some (1, .iastore) := by decide +kernel
theorem f_82_18 : zft 82 18 = some (1, .iconst 0) := by decide +kernel
theorem f_82_19 : zft 82 19 = some (1, .istore_n 3) := by decide +kernel
theorem f_82_20 : zft 82 20 = some (1, .iload_n 3) := by decide +kernel
theorem f_82_21 : zft 82 21 = some (1, .aload_n 0) := by decide +kernel
theorem f_82_22 : zft 82 22 = some (3, .getfield 9) := by decide +kernel
theorem f_82_25 : zft 82 25 = some (3, .if_icmp .ge 65) := by decide +kernel
theorem f_82_28 : zft 82 28 = some (1, .iconst 0) := by decide +kernel
theorem f_82_29 : zft 82 29 = some (2, .istore 4) := by decide +kernel
theorem f_82_31 : zft 82 31 = some (2, .iload 4) := by decide +kernel
theorem f_82_33 : zft 82 33 = some (1, .aload_n 0) := by decide +kernel
theorem f_82_34 : zft 82 34 = some (3, .getfield 21) := by decide +kernel
theorem f_82_37 : zft 82 37 = some (3, .if_icmp .ge 47) := by decide +kernel
theorem f_82_40 : zft 82 40 = some (1, .aload_n 2) := by decide +kernel
theorem f_82_41 : zft 82 41 = some (1, .aload_n 0) := by decide +kernel
theorem f_82_42 : zft 82 42 = some (3, .getfield 24) := by decide +kernel
theorem f_82_45 : zft 82 45 = some (2, .iload 4) := by decide +kernel
theorem f_82_47 : zft 82 47 = some (1, .iaload) := by decide +kernel
theorem f_82_48 : zft 82 48 = some (1, .aload_n 0) := by decide +kernel
theorem f_82_49 : zft 82 49 = some (3, .getfield 28) := by decide +kernel
theorem f_82_52 : zft 82 52 = some (2, .iload 4) := by decide +kernel
theorem f_82_54 : zft 82 54 = some (1, .iaload) := by decide +kernel
theorem f_82_55 : zft 82 55 = some (1, .iload_n 3) := by decide +kernel
theorem f_82_56 : zft 82 56 = some (3, .invokestatic 66) := by decide +kernel
theorem f_82_59 : zft 82 59 = some (1, .aload_n 2) := by decide +kernel
theorem f_82_60 : zft 82 60 = some (1, .aload_n 0) := by decide +kernel
theorem f_82_61 : zft 82 61 = some (3, .getfield 28) := by decide +kernel
theorem f_82_64 : zft 82 64 = some (2, .iload 4) := by decide +kernel
theorem f_82_66 : zft 82 66 = some (1, .iaload) := by decide +kernel
theorem f_82_67 : zft 82 67 = some (1, .aload_n 0) := by decide +kernel
theorem f_82_68 : zft 82 68 = some (3, .getfield 24) := by decide +kernel
theorem f_82_71 : zft 82 71 = some (2, .iload 4) := by decide +kernel
theorem f_82_73 : zft 82 73 = some (1, .iaload) := by decide +kernel
theorem f_82_74 : zft 82 74 = some (1, .iload_n 3) := by decide +kernel
theorem f_82_75 : zft 82 75 = some (3, .invokestatic 66) := by decide +kernel
theorem f_82_78 : zft 82 78 = some (3, .iinc 4 1) := by decide +kernel
theorem f_82_81 : zft 82 81 = some (3, .goto (-50)) := by decide +kernel
theorem f_82_84 : zft 82 84 = some (3, .iinc 3 1) := by decide +kernel
theorem f_82_87 : zft 82 87 = some (3, .goto (-67)) := by decide +kernel
theorem f_82_90 : zft 82 90 = some (1, .return_) := by decide +kernel
theorem f_83_0 : zft 83 0 = some (1, .aload_n 0) := by decide +kernel
theorem f_83_1 : zft 83 1 = some (1, .iload_n 1) := by decide +kernel
theorem f_83_2 : zft 83 2 = some (1, .iaload) := by decide +kernel
theorem f_83_3 : zft 83 3 = some (1, .iload_n 3) := by decide +kernel
theorem f_83_4 : zft 83 4 = some (3, .if_icmp .ne 16) := by decide +kernel
theorem f_83_7 : zft 83 7 = some (1, .aload_n 0) := by decide +kernel
theorem f_83_8 : zft 83 8 = some (1, .iload_n 2) := by decide +kernel
theorem f_83_9 : zft 83 9 = some (1, .iaload) := by decide +kernel
theorem f_83_10 : zft 83 10 = some (1, .iconst (-1)) := by decide +kernel
theorem f_83_11 : zft 83 11 = some (3, .if_icmp .ne 9) := by decide +kernel
theorem f_83_14 : zft 83 14 = some (1, .aload_n 0) := by decide +kernel
theorem f_83_15 : zft 83 15 = some (1, .iload_n 2) := by decide +kernel
theorem f_83_16 : zft 83 16 = some (1, .iload_n 3) := by decide +kernel
theorem f_83_17 : zft 83 17 = some (1, .iconst 1) := by decide +kernel
theorem f_83_18 : zft 83 18 = some (1, .iadd) := by decide +kernel
theorem f_83_19 : zft 83 19 = some (1, .iastore) := by decide +kernel
theorem f_83_20 : zft 83 20 = some (1, .return_) := by decide +kernel
theorem f_84_0 : zft 84 0 = some (1, .aload_n 0) := by decide +kernel
theorem f_84_1 : zft 84 1 = some (3, .invokespecial 3) := by decide +kernel
theorem f_84_4 : zft 84 4 = some (1, .aload_n 0) := by decide +kernel
theorem f_84_5 : zft 84 5 = some (2, .bipush 60) := by decide +kernel
theorem f_84_7 : zft 84 7 = some (2, .newarray .int) := by decide +kernel
theorem f_84_9 : zft 84 9 = some (3, .putfield 11) := by decide +kernel
theorem f_84_12 : zft 84 12 = some (1, .aload_n 0) := by decide +kernel
theorem f_84_13 : zft 84 13 = some (2, .bipush 20) := by decide +kernel
theorem f_84_15 : zft 84 15 = some (2, .newarray .int) := by decide +kernel
theorem f_84_17 : zft 84 17 = some (3, .putfield 15) := by decide +kernel
theorem f_84_20 : zft 84 20 = some (1, .aload_n 0) := by decide +kernel
theorem f_84_21 : zft 84 21 = some (2, .bipush 20) := by decide +kernel
theorem f_84_23 : zft 84 23 = some (2, .newarray .int) := by decide +kernel
theorem f_84_25 : zft 84 25 = some (3, .putfield 18) := by decide +kernel
theorem f_84_28 : zft 84 28 = some (1, .aload_n 0) := by decide +kernel
theorem f_84_29 : zft 84 29 = some (2, .bipush 20) := by decide +kernel
theorem f_84_31 : zft 84 31 = some (1, .iconst 4) := by decide +kernel
theorem f_84_32 : zft 84 32 = some (4, .multianewarray 21 2) := by decide +kernel
theorem f_84_36 : zft 84 36 = some (3, .putfield 23) := by decide +kernel
theorem f_84_39 : zft 84 39 = some (1, .aload_n 0) := by decide +kernel
theorem f_84_40 : zft 84 40 = some (1, .iconst 0) := by decide +kernel
theorem f_84_41 : zft 84 41 = some (3, .putfield 26) := by decide +kernel
theorem f_84_44 : zft 84 44 = some (1, .aload_n 0) := by decide +kernel
theorem f_84_45 : zft 84 45 = some (1, .iconst 0) := by decide +kernel
theorem f_84_46 : zft 84 46 = some (3, .putfield 30) := by decide +kernel
theorem f_84_49 : zft 84 49 = some (1, .aload_n 0) := by decide +kernel
theorem f_84_50 : zft 84 50 = some (1, .iconst 0) := by decide +kernel
theorem f_84_51 : zft 84 51 = some (3, .putfield 33) := by decide +kernel
theorem f_84_54 : zft 84 54 = some (1, .aload_n 0) := by decide +kernel
theorem f_84_55 : zft 84 55 = some (2, .bipush (-104)) := by decide +kernel
theorem f_84_57 : zft 84 57 = some (3, .putfield 36) := by decide +kernel
theorem f_84_60 : zft 84 60 = some (1, .return_) := by decide +kernel
theorem f_85_0 : zft 85 0 = some (1, .iconst 0) := by decide +kernel
theorem f_85_1 : zft 85 1 = some (1, .istore_n 2) := by decide +kernel
theorem f_85_2 : zft 85 2 = some (2, .bipush 24) := by decide +kernel
theorem f_85_4 : zft 85 4 = some (1, .istore_n 3) := by decide +kernel
theorem f_85_5 : zft 85 5 = some (1, .iload_n 3) := by decide +kernel
theorem f_85_6 : zft 85 6 = some (3, .ifCond .lt 53) := by decide +kernel
theorem f_85_9 : zft 85 9 = some (1, .iload_n 1) := by decide +kernel
theorem f_85_10 : zft 85 10 = some (1, .iload_n 3) := by decide +kernel
theorem f_85_11 : zft 85 11 = some (1, .iushr) := by decide +kernel
theorem f_85_12 : zft 85 12 = some (3, .sipush 255) := by decide +kernel
theorem f_85_15 : zft 85 15 = some (1, .iand) := by decide +kernel
theorem f_85_16 : zft 85 16 = some (2, .istore 4) := by decide +kernel
theorem f_85_18 : zft 85 18 = some (2, .iload 4) := by decide +kernel
theorem f_85_20 : zft 85 20 = some (3, .ifCond .eq 20) := by decide +kernel
theorem f_85_23 : zft 85 23 = some (2, .iload 4) := by decide +kernel
theorem f_85_25 : zft 85 25 = some (2, .bipush 33) := by decide +kernel
theorem f_85_27 : zft 85 27 = some (3, .if_icmp .lt 10) := by decide +kernel
theorem f_85_30 : zft 85 30 = some (2, .iload 4) := by decide +kernel
theorem f_85_32 : zft 85 32 = some (2, .bipush 126) := by decide +kernel
theorem f_85_34 : zft 85 34 = some (3, .if_icmp .le 6) := by decide +kernel
theorem f_85_37 : zft 85 37 = some (2, .bipush (-102)) := by decide +kernel
theorem f_85_39 : zft 85 39 = some (1, .ireturn) := by decide +kernel
theorem f_85_40 : zft 85 40 = some (1, .iload_n 2) := by decide +kernel
theorem f_85_41 : zft 85 41 = some (2, .iload 4) := by decide +kernel
theorem f_85_43 : zft 85 43 = some (3, .ifCond .ne 7) := by decide +kernel
theorem f_85_46 : zft 85 46 = some (1, .iconst 0) := by decide +kernel
theorem f_85_47 : zft 85 47 = some (3, .goto 4) := by decide +kernel
theorem f_85_50 : zft 85 50 = some (1, .iconst 1) := by decide +kernel
theorem f_85_51 : zft 85 51 = some (1, .iadd) := by decide +kernel
theorem f_85_52 : zft 85 52 = some (1, .istore_n 2) := by decide +kernel
theorem f_85_53 : zft 85 53 = some (3, .iinc 3 (-8)) := by decide +kernel
theorem f_85_56 : zft 85 56 = some (3, .goto (-51)) := by decide +kernel
theorem f_85_59 : zft 85 59 = some (1, .aload_n 0) := by decide +kernel
theorem f_85_60 : zft 85 60 = some (3, .getfield 30) := by decide +kernel
theorem f_85_63 : zft 85 63 = some (1, .iload_n 2) := by decide +kernel
theorem f_85_64 : zft 85 64 = some (1, .iadd) := by decide +kernel
theorem f_85_65 : zft 85 65 = some (2, .bipush 60) := by decide +kernel
theorem f_85_67 : zft 85 67 = some (3, .if_icmp .le 6) := by decide +kernel
theorem f_85_70 : zft 85 70 = some (2, .bipush (-103)) := by decide +kernel
theorem f_85_72 : zft 85 72 = some (1, .ireturn) := by decide +kernel
theorem f_85_73 : zft 85 73 = some (2, .bipush 24) := by decide +kernel
theorem f_85_75 : zft 85 75 = some (1, .istore_n 3) := by decide +kernel
theorem f_85_76 : zft 85 76 = some (1, .iload_n 3) := by decide +kernel
theorem f_85_77 : zft 85 77 = some (3, .ifCond .lt 20) := by decide +kernel
theorem f_85_80 : zft 85 80 = some (1, .aload_n 0) := by decide +kernel
theorem f_85_81 : zft 85 81 = some (1, .iload_n 1) := by decide +kernel
theorem f_85_82 : zft 85 82 = some (1, .iload_n 3) := by decide +kernel
theorem f_85_83 : zft 85 83 = some (1, .iushr) := by decide +kernel
theorem f_85_84 : zft 85 84 = some (3, .sipush 255) := by decide +kernel
theorem f_85_87 : zft 85 87 = some (1, .iand) := by decide +kernel
theorem f_85_88 : zft 85 88 = some (3, .invokevirtual 39) := by decide +kernel
theorem f_85_91 : zft 85 91 = some (3, .iinc 3 (-8)) := by decide +kernel
theorem f_85_94 : zft 85 94 = some (3, .goto (-18)) := by decide +kernel
theorem f_85_97 : zft 85 97 = some (1, .aload_n 0) := by decide +kernel
theorem f_85_98 : zft 85 98 = some (3, .getfield 30) := by decide +kernel
theorem f_85_101 : zft 85 101 = some (1, .ireturn) := by decide +kernel
theorem f_86_0 : zft 86 0 = some (1, .iload_n 1) := by decide +kernel
theorem f_86_1 : zft 86 1 = some (3, .ifCond .eq 32) := by decide +kernel
theorem f_86_4 : zft 86 4 = some (1, .aload_n 0) := by decide +kernel
theorem f_86_5 : zft 86 5 = some (3, .getfield 30) := by decide +kernel
theorem f_86_8 : zft 86 8 = some (2, .bipush 60) := by decide +kernel
theorem f_86_10 : zft 86 10 = some (3, .if_icmp .ge 23) := by decide +kernel
theorem f_86_13 : zft 86 13 = some (1, .aload_n 0) := by decide +kernel
theorem f_86_14 : zft 86 14 = some (3, .getfield 11) := by decide +kernel
theorem f_86_17 : zft 86 17 = some (1, .aload_n 0) := by decide +kernel
theorem f_86_18 : zft 86 18 = some (3, .getfield 30) := by decide +kernel
theorem f_86_21 : zft 86 21 = some (1, .iload_n 1) := by decide +kernel
theorem f_86_22 : zft 86 22 = some (1, .iastore) := by decide +kernel
theorem f_86_23 : zft 86 23 = some (1, .aload_n 0) := by decide +kernel
theorem f_86_24 : zft 86 24 = some (1, .dup) := by decide +kernel
theorem f_86_25 : zft 86 25 = some (3, .getfield 30) := by decide +kernel
theorem f_86_28 : zft 86 28 = some (1, .iconst 1) := by decide +kernel
theorem f_86_29 : zft 86 29 = some (1, .iadd) := by decide +kernel
theorem f_86_30 : zft 86 30 = some (3, .putfield 30) := by decide +kernel
theorem f_86_33 : zft 86 33 = some (1, .return_) := by decide +kernel
theorem f_87_0 : zft 87 0 = some (1, .aload_n 0) := by decide +kernel
theorem f_87_1 : zft 87 1 = some (3, .invokevirtual 43) := by decide +kernel
theorem f_87_4 : zft 87 4 = some (1, .istore_n 1) := by decide +kernel
theorem f_87_5 : zft 87 5 = some (1, .aload_n 0) := by decide +kernel
theorem f_87_6 : zft 87 6 = some (1, .iload_n 1) := by decide +kernel
theorem f_87_7 : zft 87 7 = some (3, .ifCond .eq 8) := by decide +kernel
theorem f_87_10 : zft 87 10 = some (2, .bipush (-104)) := by decide +kernel
theorem f_87_12 : zft 87 12 = some (3, .goto 7) := by decide +kernel
theorem f_87_15 : zft 87 15 = some (1, .aload_n 0) := by decide +kernel
theorem f_87_16 : zft 87 16 = some (3, .getfield 26) := by decide +kernel
theorem f_87_19 : zft 87 19 = some (3, .putfield 36) := by decide +kernel
theorem f_87_22 : zft 87 22 = some (1, .aload_n 0) := by decide +kernel
theorem f_87_23 : zft 87 23 = some (1, .iconst 0) := by decide +kernel
theorem f_87_24 : zft 87 24 = some (3, .putfield 30) := by decide +kernel
theorem f_87_27 : zft 87 27 = some (1, .iload_n 1) := by decide +kernel
theorem f_87_28 : zft 87 28 = some (1, .ireturn) := by decide +kernel
theorem f_88_0 : zft 88 0 = some (1, .aload_n 0) := by decide +kernel
theorem f_88_1 : zft 88 1 = some (1, .iconst 0) := by decide +kernel
theorem f_88_2 : zft 88 2 = some (3, .putfield 26) := by decide +kernel
theorem f_88_5 : zft 88 5 = some (1, .iconst 0) := by decide +kernel
theorem f_88_6 : zft 88 6 = some (1, .istore_n 1) := by decide +kernel
theorem f_88_7 : zft 88 7 = some (1, .iload_n 1) := by decide +kernel
theorem f_88_8 : zft 88 8 = some (2, .bipush 20) := by decide +kernel
theorem f_88_10 : zft 88 10 = some (3, .if_icmp .ge 54) := by decide +kernel
theorem f_88_13 : zft 88 13 = some (1, .iload_n 1) := by decide +kernel
theorem f_88_14 : zft 88 14 = some (3, .ifCond .le 14) := by decide +kernel
theorem f_88_17 : zft 88 17 = some (1, .aload_n 0) := by decide +kernel
theorem f_88_18 : zft 88 18 = some (2, .bipush 59) := by decide +kernel
theorem f_88_20 : zft 88 20 = some (3, .invokevirtual 47) := by decide +kernel
theorem f_88_23 : zft 88 23 = some (3, .ifCond .ne 5) := by decide +kernel
theorem f_88_26 : zft 88 26 = some (1, .iconst 0) := by decide +kernel
theorem f_88_27 : zft 88 27 = some (1, .ireturn) := by decide +kernel
theorem f_88_28 : zft 88 28 = some (1, .aload_n 0) := by decide +kernel
theorem f_88_29 : zft 88 29 = some (1, .iload_n 1) := by decide +kernel
theorem f_88_30 : zft 88 30 = some (3, .invokevirtual 51) := by decide +kernel
theorem f_88_33 : zft 88 33 = some (3, .ifCond .ne 5) := by decide +kernel
theorem f_88_36 : zft 88 36 = some (1, .iconst 0) := by decide +kernel
theorem f_88_37 : zft 88 37 = some (1, .ireturn) := by decide +kernel
theorem f_88_38 : zft 88 38 = some (1, .aload_n 0) := by decide +kernel
theorem f_88_39 : zft 88 39 = some (3, .getfield 26) := by decide +kernel
theorem f_88_42 : zft 88 42 = some (1, .aload_n 0) := by decide +kernel
theorem f_88_43 : zft 88 43 = some (3, .getfield 30) := by decide +kernel
theorem f_88_46 : zft 88 46 = some (3, .if_icmp .ne 12) := by decide +kernel
theorem f_88_49 : zft 88 49 = some (1, .aload_n 0) := by decide +kernel
theorem f_88_50 : zft 88 50 = some (1, .iload_n 1) := by decide +kernel
theorem f_88_51 : zft 88 51 = some (1, .iconst 1) := by decide +kernel
theorem f_88_52 : zft 88 52 = some (1, .iadd) := by decide +kernel
theorem f_88_53 : zft 88 53 = some (3, .putfield 33) := by decide +kernel
theorem f_88_56 : zft 88 56 = some (1, .iconst 1) := by decide +kernel
theorem f_88_57 : zft 88 57 = some (1, .ireturn) := by decide +kernel
theorem f_88_58 : zft 88 58 = some (3, .iinc 1 1) := by decide +kernel
theorem f_88_61 : zft 88 61 = some (3, .goto (-54)) := by decide +kernel
theorem f_88_64 : zft 88 64 = some (1, .aload_n 0) := by decide +kernel
theorem f_88_65 : zft 88 65 = some (2, .bipush 59) := by decide +kernel
theorem f_88_67 : zft 88 67 = some (3, .invokevirtual 47) := by decide +kernel
theorem f_88_70 : zft 88 70 = some (1, .pop) := by decide +kernel
theorem f_88_71 : zft 88 71 = some (1, .iconst 0) := by decide +kernel
theorem f_88_72 : zft 88 72 = some (1, .ireturn) := by decide +kernel
theorem f_89_0 : zft 89 0 = some (1, .aload_n 0) := by decide +kernel
theorem f_89_1 : zft 89 1 = some (1, .aload_n 0) := by decide +kernel
theorem f_89_2 : zft 89 2 = some (3, .getfield 26) := by decide +kernel
theorem f_89_5 : zft 89 5 = some (3, .invokevirtual 54) := by decide +kernel
theorem f_89_8 : zft 89 8 = some (1, .istore_n 2) := by decide +kernel
theorem f_89_9 : zft 89 9 = some (1, .iload_n 2) := by decide +kernel
theorem f_89_10 : zft 89 10 = some (3, .invokestatic 58) := by decide +kernel
theorem f_89_13 : zft 89 13 = some (1, .istore_n 3) := by decide +kernel
theorem f_89_14 : zft 89 14 = some (1, .iload_n 3) := by decide +kernel
theorem f_89_15 : zft 89 15 = some (3, .ifCond .ne 5) := by decide +kernel
theorem f_89_18 : zft 89 18 = some (1, .iconst 0) := by decide +kernel
theorem f_89_19 : zft 89 19 = some (1, .ireturn) := by decide +kernel
theorem f_89_20 : zft 89 20 = some (1, .aload_n 0) := by decide +kernel
theorem f_89_21 : zft 89 21 = some (3, .getfield 15) := by decide +kernel
theorem f_89_24 : zft 89 24 = some (1, .iload_n 1) := by decide +kernel
theorem f_89_25 : zft 89 25 = some (1, .iload_n 2) := by decide +kernel
theorem f_89_26 : zft 89 26 = some (1, .iastore) := by decide +kernel
theorem f_89_27 : zft 89 27 = some (1, .aload_n 0) := by decide +kernel
theorem f_89_28 : zft 89 28 = some (3, .getfield 18) := by decide +kernel
theorem f_89_31 : zft 89 31 = some (1, .iload_n 1) := by decide +kernel
theorem f_89_32 : zft 89 32 = some (1, .aload_n 0) := by decide +kernel
theorem f_89_33 : zft 89 33 = some (3, .getfield 26) := by decide +kernel
theorem f_89_36 : zft 89 36 = some (1, .iastore) := by decide +kernel
theorem f_89_37 : zft 89 37 = some (1, .aload_n 0) := by decide +kernel
theorem f_89_38 : zft 89 38 = some (1, .dup) := by decide +kernel
theorem f_89_39 : zft 89 39 = some (3, .getfield 26) := by decide +kernel
theorem f_89_42 : zft 89 42 = some (1, .iconst 1) := by decide +kernel
theorem f_89_43 : zft 89 43 = some (1, .iadd) := by decide +kernel
theorem f_89_44 : zft 89 44 = some (3, .putfield 26) := by decide +kernel
theorem f_89_47 : zft 89 47 = some (1, .iconst 0) := by decide +kernel
theorem f_89_48 : zft 89 48 = some (2, .istore 4) := by decide +kernel
theorem f_89_50 : zft 89 50 = some (2, .iload 4) := by decide +kernel
theorem f_89_52 : zft 89 52 = some (1, .iload_n 3) := by decide +kernel
theorem f_89_53 : zft 89 53 = some (3, .if_icmp .ge 54) := by decide +kernel
theorem f_89_56 : zft 89 56 = some (2, .iload 4) := by decide +kernel
theorem f_89_58 : zft 89 58 = some (3, .ifCond .le 14) := by decide +kernel
theorem f_89_61 : zft 89 61 = some (1, .aload_n 0) := by decide +kernel
theorem f_89_62 : zft 89 62 = some (2, .bipush 44) := by decide +kernel
theorem f_89_64 : zft 89 64 = some (3, .invokevirtual 47) := by decide +kernel
theorem f_89_67 : zft 89 67 = some (3, .ifCond .ne 5) := by decide +kernel
theorem f_89_70 : zft 89 70 = some (1, .iconst 0) := by decide +kernel
theorem f_89_71 : zft 89 71 = some (1, .ireturn) := by decide +kernel
theorem f_89_72 : zft 89 72 = some (1, .aload_n 0) := by decide +kernel
theorem f_89_73 : zft 89 73 = some (1, .aload_n 0) := by decide +kernel
theorem f_89_74 : zft 89 74 = some (3, .getfield 26) := by decide +kernel
theorem f_89_77 : zft 89 77 = some (3, .invokevirtual 54) := by decide +kernel
theorem f_89_80 : zft 89 80 = some (3, .invokestatic 61) := by decide +kernel
theorem f_89_83 : zft 89 83 = some (3, .ifCond .ne 5) := by decide +kernel
theorem f_89_86 : zft 89 86 = some (1, .iconst 0) := by decide +kernel
theorem f_89_87 : zft 89 87 = some (1, .ireturn) := by decide +kernel
theorem f_89_88 : zft 89 88 = some (1, .aload_n 0) := by decide +kernel
theorem f_89_89 : zft 89 89 = some (3, .getfield 23) := by decide +kernel
theorem f_89_92 : zft 89 92 = some (1, .iload_n 1) := by decide +kernel
theorem f_89_93 : zft 89 93 = some (1, .aaload) := by decide +kernel
theorem f_89_94 : zft 89 94 = some (2, .iload 4) := by decide +kernel
theorem f_89_96 : zft 89 96 = some (1, .aload_n 0) := by decide +kernel
theorem f_89_97 : zft 89 97 = some (3, .invokevirtual 64) := by decide +kernel
theorem f_89_100 : zft 89 100 = some (1, .iastore) := by decide +kernel
theorem f_89_101 : zft 89 101 = some (3, .iinc 4 1) := by decide +kernel
theorem f_89_104 : zft 89 104 = some (3, .goto (-54)) := by decide +kernel
theorem f_89_107 : zft 89 107 = some (1, .iconst 1) := by decide +kernel
theorem f_89_108 : zft 89 108 = some (1, .ireturn) := by decide +kernel
theorem f_90_0 : zft 90 0 = some (1, .iload_n 0) := by decide +kernel
theorem f_90_1 : zft 90 1 = some (51, .lookupswitch 57 #[(99, 53), (101, 55), (107, 53), (108, 53), (114, 51)]) := by decide +kernel
theorem f_90_52 : zft 90 52 = some (1, .iconst 4) := by decide +kernel
theorem f_90_53 : zft 90 53 = some (1, .ireturn) := by decide +kernel
theorem f_90_54 : zft 90 54 = some (1, .iconst 2) := by decide +kernel
theorem f_90_55 : zft 90 55 = some (1, .ireturn) := by decide +kernel
theorem f_90_56 : zft 90 56 = some (1, .iconst 1) := by decide +kernel
theorem f_90_57 : zft 90 57 = some (1, .ireturn) := by decide +kernel
theorem f_90_58 : zft 90 58 = some (1, .iconst 0) := by decide +kernel
theorem f_90_59 : zft 90 59 = some (1, .ireturn) := by decide +kernel
theorem f_91_0 : zft 91 0 = some (1, .aload_n 0) := by decide +kernel
theorem f_91_1 : zft 91 1 = some (1, .aload_n 0) := by decide +kernel
theorem f_91_2 : zft 91 2 = some (3, .getfield 26) := by decide +kernel
theorem f_91_5 : zft 91 5 = some (3, .invokevirtual 54) := by decide +kernel
theorem f_91_8 : zft 91 8 = some (2, .bipush 48) := by decide +kernel
theorem f_91_10 : zft 91 10 = some (1, .isub) := by decide +kernel
theorem f_91_11 : zft 91 11 = some (1, .istore_n 1) := by decide +kernel
theorem f_91_12 : zft 91 12 = some (1, .aload_n 0) := by decide +kernel
theorem f_91_13 : zft 91 13 = some (1, .dup) := by decide +kernel
theorem f_91_14 : zft 91 14 = some (3, .getfield 26) := by decide +kernel
theorem f_91_17 : zft 91 17 = some (1, .iconst 1) := by decide +kernel
theorem f_91_18 : zft 91 18 = some (1, .iadd) := by decide +kernel
theorem f_91_19 : zft 91 19 = some (3, .putfield 26) := by decide +kernel
theorem f_91_22 : zft 91 22 = some (1, .aload_n 0) := by decide +kernel
theorem f_91_23 : zft 91 23 = some (1, .aload_n 0) := by decide +kernel
theorem f_91_24 : zft 91 24 = some (3, .getfield 26) := by decide +kernel
theorem f_91_27 : zft 91 27 = some (3, .invokevirtual 54) := by decide +kernel
theorem f_91_30 : zft 91 30 = some (3, .invokestatic 61) := by decide +kernel
theorem f_91_33 : zft 91 33 = some (3, .ifCond .eq 30) := by decide +kernel
theorem f_91_36 : zft 91 36 = some (2, .bipush 10) := by decide +kernel
theorem f_91_38 : zft 91 38 = some (1, .iload_n 1) := by decide +kernel
theorem f_91_39 : zft 91 39 = some (1, .imul) := by decide +kernel
theorem f_91_40 : zft 91 40 = some (1, .aload_n 0) := by decide +kernel
theorem f_91_41 : zft 91 41 = some (1, .aload_n 0) := by decide +kernel
theorem f_91_42 : zft 91 42 = some (3, .getfield 26) := by decide +kernel
theorem f_91_45 : zft 91 45 = some (3, .invokevirtual 54) := by decide +kernel
theorem f_91_48 : zft 91 48 = some (1, .iadd) := by decide +kernel
theorem f_91_49 : zft 91 49 = some (2, .bipush 48) := by decide +kernel
theorem f_91_51 : zft 91 51 = some (1, .isub) := by decide +kernel
theorem f_91_52 : zft 91 52 = some (1, .istore_n 1) := by decide +kernel
theorem f_91_53 : zft 91 53 = some (1, .aload_n 0) := by decide +kernel
theorem f_91_54 : zft 91 54 = some (1, .dup) := by decide +kernel
theorem f_91_55 : zft 91 55 = some (3, .getfield 26) := by decide +kernel
theorem f_91_58 : zft 91 58 = some (1, .iconst 1) := by decide +kernel
theorem f_91_59 : zft 91 59 = some (1, .iadd) := by decide +kernel
theorem f_91_60 : zft 91 60 = some (3, .putfield 26) := by decide +kernel
theorem f_91_63 : zft 91 63 = some (1, .iload_n 1) := by decide +kernel
theorem f_91_64 : zft 91 64 = some (1, .ireturn) := by decide +kernel
theorem f_92_0 : zft 92 0 = some (1, .aload_n 0) := by decide +kernel
theorem f_92_1 : zft 92 1 = some (1, .aload_n 0) := by decide +kernel
theorem f_92_2 : zft 92 2 = some (3, .getfield 26) := by decide +kernel
theorem f_92_5 : zft 92 5 = some (3, .invokevirtual 54) := by decide +kernel
theorem f_92_8 : zft 92 8 = some (1, .iload_n 1) := by decide +kernel
theorem f_92_9 : zft 92 9 = some (3, .if_icmp .eq 5) := by decide +kernel
theorem f_92_12 : zft 92 12 = some (1, .iconst 0) := by decide +kernel
theorem f_92_13 : zft 92 13 = some (1, .ireturn) := by decide +kernel
theorem f_92_14 : zft 92 14 = some (1, .aload_n 0) := by decide +kernel
theorem f_92_15 : zft 92 15 = some (1, .dup) := by decide +kernel
theorem f_92_16 : zft 92 16 = some (3, .getfield 26) := by decide +kernel
theorem f_92_19 : zft 92 19 = some (1, .iconst 1) := by decide +kernel
theorem f_92_20 : zft 92 20 = some (1, .iadd) := by decide +kernel
theorem f_92_21 : zft 92 21 = some (3, .putfield 26) := by decide +kernel
theorem f_92_24 : zft 92 24 = some (1, .iconst 1) := by decide +kernel
theorem f_92_25 : zft 92 25 = some (1, .ireturn) := by decide +kernel
theorem f_93_0 : zft 93 0 = some (1, .iload_n 1) := by decide +kernel
theorem f_93_1 : zft 93 1 = some (3, .ifCond .lt 20) := by decide +kernel
theorem f_93_4 : zft 93 4 = some (1, .iload_n 1) := by decide +kernel
theorem f_93_5 : zft 93 5 = some (1, .aload_n 0) := by decide +kernel
theorem f_93_6 : zft 93 6 = some (3, .getfield 30) := by decide +kernel
theorem f_93_9 : zft 93 9 = some (3, .if_icmp .ge 12) := by decide +kernel
theorem f_93_12 : zft 93 12 = some (1, .aload_n 0) := by decide +kernel
theorem f_93_13 : zft 93 13 = some (3, .getfield 11) := by decide +kernel
theorem f_93_16 : zft 93 16 = some (1, .iload_n 1) := by decide +kernel
theorem f_93_17 : zft 93 17 = some (1, .iaload) := by decide +kernel
theorem f_93_18 : zft 93 18 = some (3, .goto 4) := by decide +kernel
theorem f_93_21 : zft 93 21 = some (1, .iconst 0) := by decide +kernel
theorem f_93_22 : zft 93 22 = some (1, .ireturn) := by decide +kernel
theorem f_94_0 : zft 94 0 = some (1, .iload_n 0) := by decide +kernel
theorem f_94_1 : zft 94 1 = some (2, .bipush 48) := by decide +kernel
theorem f_94_3 : zft 94 3 = some (3, .if_icmp .lt 13) := by decide +kernel
theorem f_94_6 : zft 94 6 = some (1, .iload_n 0) := by decide +kernel
theorem f_94_7 : zft 94 7 = some (2, .bipush 57) := by decide +kernel
theorem f_94_9 : zft 94 9 = some (3, .if_icmp .gt 7) := by decide +kernel
theorem f_94_12 : zft 94 12 = some (1, .iconst 1) := by decide +kernel
theorem f_94_13 : zft 94 13 = some (3, .goto 4) := by decide +kernel
theorem f_94_16 : zft 94 16 = some (1, .iconst 0) := by decide +kernel
theorem f_94_17 : zft 94 17 = some (1, .ireturn) := by decide +kernel
theorem f_95_0 : zft 95 0 = some (1, .iconst 0) := by decide +kernel
theorem f_95_1 : zft 95 1 = some (1, .istore_n 2) := by decide +kernel
theorem f_95_2 : zft 95 2 = some (1, .iload_n 2) := by decide +kernel
theorem f_95_3 : zft 95 3 = some (1, .aload_n 0) := by decide +kernel
theorem f_95_4 : zft 95 4 = some (3, .getfield 33) := by decide +kernel
theorem f_95_7 : zft 95 7 = some (3, .if_icmp .ge 48) := by decide +kernel
theorem f_95_10 : zft 95 10 = some (1, .aload_n 1) := by decide +kernel
theorem f_95_11 : zft 95 11 = some (1, .aload_n 0) := by decide +kernel
theorem f_95_12 : zft 95 12 = some (3, .getfield 15) := by decide +kernel
theorem f_95_15 : zft 95 15 = some (1, .iload_n 2) := by decide +kernel
theorem f_95_16 : zft 95 16 = some (1, .iaload) := by decide +kernel
theorem f_95_17 : zft 95 17 = some (1, .aload_n 0) := by decide +kernel
theorem f_95_18 : zft 95 18 = some (3, .getfield 23) := by decide +kernel
theorem f_95_21 : zft 95 21 = some (1, .iload_n 2) := by decide +kernel
theorem f_95_22 : zft 95 22 = some (1, .aaload) := by decide +kernel
theorem f_95_23 : zft 95 23 = some (3, .invokestatic 68) := by decide +kernel
theorem f_95_26 : zft 95 26 = some (1, .istore_n 3) := by decide +kernel
theorem f_95_27 : zft 95 27 = some (1, .iload_n 3) := by decide +kernel
theorem f_95_28 : zft 95 28 = some (3, .ifCond .ge 21) := by decide +kernel
theorem f_95_31 : zft 95 31 = some (1, .iload_n 3) := by decide +kernel
theorem f_95_32 : zft 95 32 = some (2, .bipush (-104)) := by decide +kernel
theorem f_95_34 : zft 95 34 = some (3, .if_icmp .eq 15) := by decide +kernel
theorem f_95_37 : zft 95 37 = some (1, .aload_n 0) := by decide +kernel
theorem f_95_38 : zft 95 38 = some (1, .aload_n 0) := by decide +kernel
theorem f_95_39 : zft 95 39 = some (3, .getfield 18) := by decide +kernel
theorem f_95_42 : zft 95 42 = some (1, .iload_n 2) := by decide +kernel
theorem f_95_43 : zft 95 43 = some (1, .iaload) := by decide +kernel
theorem f_95_44 : zft 95 44 = some (3, .putfield 36) := by decide +kernel
theorem f_95_47 : zft 95 47 = some (1, .iconst 0) := by decide +kernel
theorem f_95_48 : zft 95 48 = some (1, .ireturn) := by decide +kernel
theorem f_95_49 : zft 95 49 = some (3, .iinc 2 1) := by decide +kernel
theorem f_95_52 : zft 95 52 = some (3, .goto (-50)) := by decide +kernel
theorem f_95_55 : zft 95 55 = some (1, .iconst 1) := by decide +kernel
theorem f_95_56 : zft 95 56 = some (1, .ireturn) := by decide +kernel
theorem f_96_0 : zft 96 0 = some (1, .iload_n 1) := by decide +kernel
theorem f_96_1 : zft 96 1 = some (43, .lookupswitch 93 #[(99, 60), (107, 82), (108, 71), (114, 43)]) := by decide +kernel
theorem f_96_44 : zft 96 44 = some (1, .aload_n 0) := by decide +kernel
theorem f_96_45 : zft 96 45 = some (1, .aload_n 2) := by decide +kernel
theorem f_96_46 : zft 96 46 = some (1, .iconst 0) := by decide +kernel
theorem f_96_47 : zft 96 47 = some (1, .iaload) := by decide +kernel
theorem f_96_48 : zft 96 48 = some (1, .aload_n 2) := by decide +kernel
theorem f_96_49 : zft 96 49 = some (1, .iconst 1) := by decide +kernel
theorem f_96_50 : zft 96 50 = some (1, .iaload) := by decide +kernel
theorem f_96_51 : zft 96 51 = some (1, .aload_n 2) := by decide +kernel
theorem f_96_52 : zft 96 52 = some (1, .iconst 2) := by decide +kernel
theorem f_96_53 : zft 96 53 = some (1, .iaload) := by decide +kernel
theorem f_96_54 : zft 96 54 = some (1, .aload_n 2) := by decide +kernel
theorem f_96_55 : zft 96 55 = some (1, .iconst 3) := by decide +kernel
theorem f_96_56 : zft 96 56 = some (1, .iaload) := by decide +kernel
theorem f_96_57 : zft 96 57 = some (3, .invokevirtual 72) := by decide +kernel
theorem f_96_60 : zft 96 60 = some (1, .ireturn) := by decide +kernel
theorem f_96_61 : zft 96 61 = some (1, .aload_n 0) := by decide +kernel
theorem f_96_62 : zft 96 62 = some (1, .aload_n 2) := by decide +kernel
theorem f_96_63 : zft 96 63 = some (1, .iconst 0) := by decide +kernel
theorem f_96_64 : zft 96 64 = some (1, .iaload) := by decide +kernel
theorem f_96_65 : zft 96 65 = some (1, .aload_n 2) := by decide +kernel
theorem f_96_66 : zft 96 66 = some (1, .iconst 1) := by decide +kernel
theorem f_96_67 : zft 96 67 = some (1, .iaload) := by decide +kernel
theorem f_96_68 : zft 96 68 = some (3, .invokevirtual 78) := by decide +kernel
theorem f_96_71 : zft 96 71 = some (1, .ireturn) := by decide +kernel
theorem f_96_72 : zft 96 72 = some (1, .aload_n 0) := by decide +kernel
theorem f_96_73 : zft 96 73 = some (1, .aload_n 2) := by decide +kernel
theorem f_96_74 : zft 96 74 = some (1, .iconst 0) := by decide +kernel
theorem f_96_75 : zft 96 75 = some (1, .iaload) := by decide +kernel
theorem f_96_76 : zft 96 76 = some (1, .aload_n 2) := by decide +kernel
theorem f_96_77 : zft 96 77 = some (1, .iconst 1) := by decide +kernel
theorem f_96_78 : zft 96 78 = some (1, .iaload) := by decide +kernel
theorem f_96_79 : zft 96 79 = some (3, .invokevirtual 82) := by decide +kernel
theorem f_96_82 : zft 96 82 = some (1, .ireturn) := by decide +kernel
theorem f_96_83 : zft 96 83 = some (1, .aload_n 0) := by decide +kernel
theorem f_96_84 : zft 96 84 = some (1, .aload_n 2) := by decide +kernel
theorem f_96_85 : zft 96 85 = some (1, .iconst 0) := by decide +kernel
theorem f_96_86 : zft 96 86 = some (1, .iaload) := by decide +kernel
theorem f_96_87 : zft 96 87 = some (1, .aload_n 2) := by decide +kernel
theorem f_96_88 : zft 96 88 = some (1, .iconst 1) := by decide +kernel
theorem f_96_89 : zft 96 89 = some (1, .iaload) := by decide +kernel
theorem f_96_90 : zft 96 90 = some (3, .invokevirtual 85) := by decide +kernel
theorem f_96_93 : zft 96 93 = some (1, .ireturn) := by decide +kernel
theorem f_96_94 : zft 96 94 = some (1, .aload_n 0) := by decide +kernel
theorem f_96_95 : zft 96 95 = some (1, .aload_n 2) := by decide +kernel
theorem f_96_96 : zft 96 96 = some (1, .iconst 0) := by decide +kernel
theorem f_96_97 : zft 96 97 = some (1, .iaload) := by decide +kernel
theorem f_96_98 : zft 96 98 = some (3, .invokevirtual 88) := by decide +kernel
theorem f_96_101 : zft 96 101 = some (1, .ireturn) := by decide +kernel
theorem f_97_0 : zft 97 0 = some (1, .aload_n 0) := by decide +kernel
theorem f_97_1 : zft 97 1 = some (3, .invokespecial 5) := by decide +kernel
theorem f_97_4 : zft 97 4 = some (1, .aload_n 0) := by decide +kernel
theorem f_97_5 : zft 97 5 = some (3, .sipush 768) := by decide +kernel
theorem f_97_8 : zft 97 8 = some (2, .newarray .int) := by decide +kernel
theorem f_97_10 : zft 97 10 = some (3, .putfield 11) := by decide +kernel
theorem f_97_13 : zft 97 13 = some (1, .aload_n 0) := by decide +kernel
theorem f_97_14 : zft 97 14 = some (3, .sipush 768) := by decide +kernel
theorem f_97_17 : zft 97 17 = some (2, .newarray .int) := by decide +kernel
theorem f_97_19 : zft 97 19 = some (3, .putfield 15) := by decide +kernel
theorem f_97_22 : zft 97 22 = some (1, .aload_n 0) := by decide +kernel
theorem f_97_23 : zft 97 23 = some (3, .sipush 768) := by decide +kernel
theorem f_97_26 : zft 97 26 = some (2, .newarray .int) := by decide +kernel
theorem f_97_28 : zft 97 28 = some (3, .putfield 18) := by decide +kernel
theorem f_97_31 : zft 97 31 = some (1, .aload_n 0) := by decide +kernel
theorem f_97_32 : zft 97 32 = some (3, .sipush 768) := by decide +kernel
theorem f_97_35 : zft 97 35 = some (2, .newarray .int) := by decide +kernel
theorem f_97_37 : zft 97 37 = some (3, .putfield 21) := by decide +kernel
theorem f_97_40 : zft 97 40 = some (1, .aload_n 0) := by decide +kernel
theorem f_97_41 : zft 97 41 = some (3, .sipush 768) := by decide +kernel
theorem f_97_44 : zft 97 44 = some (2, .newarray .int) := by decide +kernel
theorem f_97_46 : zft 97 46 = some (3, .putfield 24) := by decide +kernel
theorem f_97_49 : zft 97 49 = some (1, .aload_n 0) := by decide +kernel
theorem f_97_50 : zft 97 50 = some (2, .bipush 12) := by decide +kernel
theorem f_97_52 : zft 97 52 = some (2, .newarray .int) := by decide +kernel
theorem f_97_54 : zft 97 54 = some (3, .putfield 27) := by decide +kernel
theorem f_97_57 : zft 97 57 = some (1, .aload_n 0) := by decide +kernel
theorem f_97_58 : zft 97 58 = some (1, .iconst 0) := by decide +kernel
theorem f_97_59 : zft 97 59 = some (3, .putfield 30) := by decide +kernel
theorem f_97_62 : zft 97 62 = some (1, .return_) := by decide +kernel
theorem f_98_0 : zft 98 0 = some (1, .aload_n 0) := by decide +kernel
theorem f_98_1 : zft 98 1 = some (3, .getfield 24) := by decide +kernel
theorem f_98_4 : zft 98 4 = some (1, .iconst 0) := by decide +kernel
theorem f_98_5 : zft 98 5 = some (3, .invokestatic 34) := by decide +kernel
theorem f_98_8 : zft 98 8 = some (1, .aload_n 0) := by decide +kernel
theorem f_98_9 : zft 98 9 = some (3, .getfield 27) := by decide +kernel
theorem f_98_12 : zft 98 12 = some (1, .iconst (-1)) := by decide +kernel
theorem f_98_13 : zft 98 13 = some (3, .invokestatic 34) := by decide +kernel
theorem f_98_16 : zft 98 16 = some (1, .aload_n 0) := by decide +kernel
theorem f_98_17 : zft 98 17 = some (1, .iconst 0) := by decide +kernel
theorem f_98_18 : zft 98 18 = some (3, .putfield 30) := by decide +kernel
theorem f_98_21 : zft 98 21 = some (1, .aload_n 1) := by decide +kernel
theorem f_98_22 : zft 98 22 = some (3, .getfield 40) := by decide +kernel
theorem f_98_25 : zft 98 25 = some (3, .ifCond .ne 4) := by decide +kernel
theorem f_98_28 : zft 98 28 = some (1, .return_) := by decide +kernel
theorem f_98_29 : zft 98 29 = some (1, .aload_n 0) := by decide +kernel
theorem f_98_30 : zft 98 30 = some (1, .aload_n 1) := by decide +kernel
theorem f_98_31 : zft 98 31 = some (1, .aload_n 1) := by decide +kernel
theorem f_98_32 : zft 98 32 = some (3, .getfield 44) := by decide +kernel
theorem f_98_35 : zft 98 35 = some (1, .iconst (-1)) := by decide +kernel
theorem f_98_36 : zft 98 36 = some (3, .invokevirtual 47) := by decide +kernel
theorem f_98_39 : zft 98 39 = some (1, .iconst 0) := by decide +kernel
theorem f_98_40 : zft 98 40 = some (1, .istore_n 2) := by decide +kernel
theorem f_98_41 : zft 98 41 = some (1, .iload_n 2) := by decide +kernel
theorem f_98_42 : zft 98 42 = some (3, .sipush 768) := by decide +kernel
theorem f_98_45 : zft 98 45 = some (3, .if_icmp .ge 23) := by decide +kernel
theorem f_98_48 : zft 98 48 = some (1, .iload_n 2) := by decide +kernel
theorem f_98_49 : zft 98 49 = some (1, .aload_n 0) := by decide +kernel
theorem f_98_50 : zft 98 50 = some (3, .getfield 30) := by decide +kernel
theorem f_98_53 : zft 98 53 = some (3, .if_icmp .ge 15) := by decide +kernel
theorem f_98_56 : zft 98 56 = some (1, .aload_n 0) := by decide +kernel
theorem f_98_57 : zft 98 57 = some (1, .aload_n 1) := by decide +kernel
theorem f_98_58 : zft 98 58 = some (1, .iload_n 2) := by decide +kernel
theorem f_98_59 : zft 98 59 = some (3, .invokevirtual 51) := by decide +kernel
theorem f_98_62 : zft 98 62 = some (3, .iinc 2 1) := by decide +kernel
theorem f_98_65 : zft 98 65 = some (3, .goto (-24)) := by decide +kernel
theorem f_98_68 : zft 98 68 = some (1, .return_) := by decide +kernel
theorem f_99_0 : zft 99 0 = some (1, .iconst 0) := by decide +kernel
theorem f_99_1 : zft 99 1 = some (1, .istore_n 3) := by decide +kernel
theorem f_99_2 : zft 99 2 = some (1, .iload_n 3) := by decide +kernel
theorem f_99_3 : zft 99 3 = some (1, .aload_n 1) := by decide +kernel
theorem f_99_4 : zft 99 4 = some (3, .getfield 40) := by decide +kernel
theorem f_99_7 : zft 99 7 = some (3, .if_icmp .ge 50) := by decide +kernel
theorem f_99_10 : zft 99 10 = some (1, .aload_n 1) := by decide +kernel
theorem f_99_11 : zft 99 11 = some (1, .aload_n 0) := by decide +kernel
theorem f_99_12 : zft 99 12 = some (3, .getfield 11) := by decide +kernel
theorem f_99_15 : zft 99 15 = some (1, .iload_n 2) := by decide +kernel
theorem f_99_16 : zft 99 16 = some (1, .iaload) := by decide +kernel
theorem f_99_17 : zft 99 17 = some (1, .iload_n 3) := by decide +kernel
theorem f_99_18 : zft 99 18 = some (3, .invokevirtual 55) := by decide +kernel
theorem f_99_21 : zft 99 21 = some (2, .istore 4) := by decide +kernel
theorem f_99_23 : zft 99 23 = some (2, .iload 4) := by decide +kernel
theorem f_99_25 : zft 99 25 = some (1, .iconst (-1)) := by decide +kernel
theorem f_99_26 : zft 99 26 = some (3, .if_icmp .eq 25) := by decide +kernel
theorem f_99_29 : zft 99 29 = some (1, .aload_n 1) := by decide +kernel
theorem f_99_30 : zft 99 30 = some (2, .iload 4) := by decide +kernel
theorem f_99_32 : zft 99 32 = some (1, .aload_n 0) := by decide +kernel
theorem f_99_33 : zft 99 33 = some (3, .getfield 15) := by decide +kernel
theorem f_99_36 : zft 99 36 = some (1, .iload_n 2) := by decide +kernel
theorem f_99_37 : zft 99 37 = some (1, .iaload) := by decide +kernel
theorem f_99_38 : zft 99 38 = some (3, .invokevirtual 59) := by decide +kernel
theorem f_99_41 : zft 99 41 = some (3, .ifCond .eq 10) := by decide +kernel
theorem f_99_44 : zft 99 44 = some (1, .aload_n 0) := by decide +kernel
theorem f_99_45 : zft 99 45 = some (1, .aload_n 1) := by decide +kernel
theorem f_99_46 : zft 99 46 = some (1, .iload_n 3) := by decide +kernel
theorem f_99_47 : zft 99 47 = some (1, .iload_n 2) := by decide +kernel
theorem f_99_48 : zft 99 48 = some (3, .invokevirtual 47) := by decide +kernel
theorem f_99_51 : zft 99 51 = some (3, .iinc 3 1) := by decide +kernel
theorem f_99_54 : zft 99 54 = some (3, .goto (-52)) := by decide +kernel
theorem f_99_57 : zft 99 57 = some (1, .return_) := by decide +kernel
theorem f_100_0 : zft 100 0 = some (1, .aload_n 1) := by decide +kernel
theorem f_100_1 : zft 100 1 = some (1, .iload_n 2) := by decide +kernel
theorem f_100_2 : zft 100 2 = some (3, .invokevirtual 63) := by decide +kernel
theorem f_100_5 : zft 100 5 = some (1, .iload_n 3) := by decide +kernel
theorem f_100_6 : zft 100 6 = some (1, .iconst (-1)) := by decide +kernel
theorem f_100_7 : zft 100 7 = some (3, .if_icmp .ne 7) := by decide +kernel
theorem f_100_10 : zft 100 10 = some (1, .iconst 0) := by decide +kernel
theorem f_100_11 : zft 100 11 = some (3, .goto 9) := by decide +kernel
theorem f_100_14 : zft 100 14 = some (1, .aload_n 0) := by decide +kernel
theorem f_100_15 : zft 100 15 = some (3, .getfield 15) := by decide +kernel
theorem f_100_18 : zft 100 18 = some (1, .iload_n 3) := by decide +kernel
theorem f_100_19 : zft 100 19 = some (1, .iaload) := by decide +kernel
theorem f_100_20 : zft 100 20 = some (1, .ior) := by decide +kernel
theorem f_100_21 : zft 100 21 = some (2, .istore 4) := by decide +kernel
theorem f_100_23 : zft 100 23 = some (1, .iload_n 2) := by decide +kernel
theorem f_100_24 : zft 100 24 = some (2, .bipush 64) := by decide +kernel
theorem f_100_26 : zft 100 26 = some (1, .imul) := by decide +kernel
theorem f_100_27 : zft 100 27 = some (2, .iload 4) := by decide +kernel
theorem f_100_29 : zft 100 29 = some (1, .iadd) := by decide +kernel
theorem f_100_30 : zft 100 30 = some (2, .istore 5) := by decide +kernel
theorem f_100_32 : zft 100 32 = some (1, .aload_n 0) := by decide +kernel
theorem f_100_33 : zft 100 33 = some (3, .getfield 24) := by decide +kernel
theorem f_100_36 : zft 100 36 = some (2, .iload 5) := by decide +kernel
theorem f_100_38 : zft 100 38 = some (1, .iaload) := by decide +kernel
theorem f_100_39 : zft 100 39 = some (3, .ifCond .ne 13) := by decide +kernel
theorem f_100_42 : zft 100 42 = some (1, .aload_n 0) := by decide +kernel
theorem f_100_43 : zft 100 43 = some (3, .getfield 30) := by decide +kernel
theorem f_100_46 : zft 100 46 = some (3, .sipush 768) := by decide +kernel
theorem f_100_49 : zft 100 49 = some (3, .if_icmp .lt 4) := by decide +kernel
theorem f_100_52 : zft 100 52 = some (1, .return_) := by decide +kernel
theorem f_100_53 : zft 100 53 = some (1, .aload_n 0) := by decide +kernel
theorem f_100_54 : zft 100 54 = some (3, .getfield 24) := by decide +kernel
theorem f_100_57 : zft 100 57 = some (2, .iload 5) := by decide +kernel
theorem f_100_59 : zft 100 59 = some (1, .iconst 1) := by decide +kernel
theorem f_100_60 : zft 100 60 = some (1, .iastore) := by decide +kernel
theorem f_100_61 : zft 100 61 = some (1, .aload_n 0) := by decide +kernel
theorem f_100_62 : zft 100 62 = some (3, .getfield 11) := by decide +kernel
theorem f_100_65 : zft 100 65 = some (1, .aload_n 0) := by decide +kernel
theorem f_100_66 : zft 100 66 = some (3, .getfield 30) := by decide +kernel
theorem f_100_69 : zft 100 69 = some (1, .iload_n 2) := by decide +kernel
theorem f_100_70 : zft 100 70 = some (1, .iastore) := by decide +kernel
theorem f_100_71 : zft 100 71 = some (1, .aload_n 0) := by decide +kernel
theorem f_100_72 : zft 100 72 = some (3, .getfield 15) := by decide +kernel
theorem f_100_75 : zft 100 75 = some (1, .aload_n 0) := by decide +kernel
theorem f_100_76 : zft 100 76 = some (3, .getfield 30) := by decide +kernel
theorem f_100_79 : zft 100 79 = some (2, .iload 4) := by decide +kernel
theorem f_100_81 : zft 100 81 = some (1, .iastore) := by decide +kernel
theorem f_100_82 : zft 100 82 = some (1, .aload_n 0) := by decide +kernel
theorem f_100_83 : zft 100 83 = some (3, .getfield 18) := by decide +kernel
theorem f_100_86 : zft 100 86 = some (1, .aload_n 0) := by decide +kernel
theorem f_100_87 : zft 100 87 = some (3, .getfield 30) := by decide +kernel
theorem f_100_90 : zft 100 90 = some (1, .iload_n 3) := by decide +kernel
theorem f_100_91 : zft 100 91 = some (1, .iastore) := by decide +kernel
theorem f_100_92 : zft 100 92 = some (1, .aload_n 0) := by decide +kernel
theorem f_100_93 : zft 100 93 = some (3, .getfield 21) := by decide +kernel
theorem f_100_96 : zft 100 96 = some (1, .aload_n 0) := by decide +kernel
theorem f_100_97 : zft 100 97 = some (3, .getfield 30) := by decide +kernel
theorem f_100_100 : zft 100 100 = some (1, .iload_n 3) := by decide +kernel
theorem f_100_101 : zft 100 101 = some (1, .iconst (-1)) := by decide +kernel
theorem f_100_102 : zft 100 102 = some (3, .if_icmp .ne 7) := by decide +kernel
theorem f_100_105 : zft 100 105 = some (1, .iconst 0) := by decide +kernel
theorem f_100_106 : zft 100 106 = some (3, .goto 11) := by decide +kernel
theorem f_100_109 : zft 100 109 = some (1, .aload_n 0) := by decide +kernel
theorem f_100_110 : zft 100 110 = some (3, .getfield 21) := by decide +kernel
theorem f_100_113 : zft 100 113 = some (1, .iload_n 3) := by decide +kernel
theorem f_100_114 : zft 100 114 = some (1, .iaload) := by decide +kernel
theorem f_100_115 : zft 100 115 = some (1, .iconst 1) := by decide +kernel
theorem f_100_116 : zft 100 116 = some (1, .iadd) := by decide +kernel
theorem f_100_117 : zft 100 117 = some (1, .iastore) := by decide +kernel
theorem f_100_118 : zft 100 118 = some (1, .aload_n 0) := by decide +kernel
theorem f_100_119 : zft 100 119 = some (3, .getfield 27) := by decide +kernel
theorem f_100_122 : zft 100 122 = some (1, .iload_n 2) := by decide +kernel
theorem f_100_123 : zft 100 123 = some (1, .iaload) := by decide +kernel
theorem f_100_124 : zft 100 124 = some (1, .iconst (-1)) := by decide +kernel
theorem f_100_125 : zft 100 125 = some (3, .if_icmp .ne 13) := by decide +kernel
theorem f_100_128 : zft 100 128 = some (1, .aload_n 0) := by decide +kernel
theorem f_100_129 : zft 100 129 = some (3, .getfield 27) := by decide +kernel
theorem f_100_132 : zft 100 132 = some (1, .iload_n 2) := by decide +kernel
theorem f_100_133 : zft 100 133 = some (1, .aload_n 0) := by decide +kernel
theorem f_100_134 : zft 100 134 = some (3, .getfield 30) := by decide +kernel
theorem f_100_137 : zft 100 137 = some (1, .iastore) := by decide +kernel
theorem f_100_138 : zft 100 138 = some (1, .aload_n 0) := by decide +kernel
theorem f_100_139 : zft 100 139 = some (1, .dup) := by decide +kernel
theorem f_100_140 : zft 100 140 = some (3, .getfield 30) := by decide +kernel
theorem f_100_143 : zft 100 143 = some (1, .iconst 1) := by decide +kernel
theorem f_100_144 : zft 100 144 = some (1, .iadd) := by decide +kernel
theorem f_100_145 : zft 100 145 = some (3, .putfield 30) := by decide +kernel
theorem f_100_148 : zft 100 148 = some (1, .return_) := by decide +kernel
theorem f_101_0 : zft 101 0 = some (1, .aload_n 0) := by decide +kernel
theorem f_101_1 : zft 101 1 = some (3, .getfield 27) := by decide +kernel
theorem f_101_4 : zft 101 4 = some (1, .iload_n 1) := by decide +kernel
theorem f_101_5 : zft 101 5 = some (1, .iaload) := by decide +kernel
theorem f_101_6 : zft 101 6 = some (1, .iconst (-1)) := by decide +kernel
theorem f_101_7 : zft 101 7 = some (3, .if_icmp .ne 7) := by decide +kernel
theorem f_101_10 : zft 101 10 = some (1, .iconst (-1)) := by decide +kernel
theorem f_101_11 : zft 101 11 = some (3, .goto 14) := by decide +kernel
theorem f_101_14 : zft 101 14 = some (1, .aload_n 0) := by decide +kernel
theorem f_101_15 : zft 101 15 = some (3, .getfield 21) := by decide +kernel
theorem f_101_18 : zft 101 18 = some (1, .aload_n 0) := by decide +kernel
theorem f_101_19 : zft 101 19 = some (3, .getfield 27) := by decide +kernel
theorem f_101_22 : zft 101 22 = some (1, .iload_n 1) := by decide +kernel
theorem f_101_23 : zft 101 23 = some (1, .iaload) := by decide +kernel
theorem f_101_24 : zft 101 24 = some (1, .iaload) := by decide +kernel
theorem f_101_25 : zft 101 25 = some (1, .ireturn) := by decide +kernel
theorem f_102_0 : zft 102 0 = some (1, .aload_n 0) := by decide +kernel
theorem f_102_1 : zft 102 1 = some (3, .getfield 27) := by decide +kernel
theorem f_102_4 : zft 102 4 = some (1, .iload_n 1) := by decide +kernel
theorem f_102_5 : zft 102 5 = some (1, .iaload) := by decide +kernel
theorem f_102_6 : zft 102 6 = some (1, .istore_n 3) := by decide +kernel
theorem f_102_7 : zft 102 7 = some (1, .aload_n 0) := by decide +kernel
theorem f_102_8 : zft 102 8 = some (1, .iload_n 1) := by decide +kernel
theorem f_102_9 : zft 102 9 = some (3, .invokevirtual 67) := by decide +kernel
theorem f_102_12 : zft 102 12 = some (2, .istore 4) := by decide +kernel
theorem f_102_14 : zft 102 14 = some (2, .iload 4) := by decide +kernel
theorem f_102_16 : zft 102 16 = some (1, .iload_n 2) := by decide +kernel
theorem f_102_17 : zft 102 17 = some (3, .if_icmp .le 21) := by decide +kernel
theorem f_102_20 : zft 102 20 = some (1, .iload_n 3) := by decide +kernel
theorem f_102_21 : zft 102 21 = some (1, .iconst (-1)) := by decide +kernel
theorem f_102_22 : zft 102 22 = some (3, .if_icmp .eq 16) := by decide +kernel
theorem f_102_25 : zft 102 25 = some (1, .aload_n 0) := by decide +kernel
theorem f_102_26 : zft 102 26 = some (3, .getfield 18) := by decide +kernel
theorem f_102_29 : zft 102 29 = some (1, .iload_n 3) := by decide +kernel
theorem f_102_30 : zft 102 30 = some (1, .iaload) := by decide +kernel
theorem f_102_31 : zft 102 31 = some (1, .istore_n 3) := by decide +kernel
theorem f_102_32 : zft 102 32 = some (3, .iinc 4 (-1)) := by decide +kernel
theorem f_102_35 : zft 102 35 = some (3, .goto (-21)) := by decide +kernel
theorem f_102_38 : zft 102 38 = some (1, .iload_n 3) := by decide +kernel
theorem f_102_39 : zft 102 39 = some (1, .iconst (-1)) := by decide +kernel
theorem f_102_40 : zft 102 40 = some (3, .if_icmp .ne 8) := by decide +kernel
theorem f_102_43 : zft 102 43 = some (2, .bipush (-104)) := by decide +kernel
theorem f_102_45 : zft 102 45 = some (3, .goto 9) := by decide +kernel
theorem f_102_48 : zft 102 48 = some (1, .aload_n 0) := by decide +kernel
theorem f_102_49 : zft 102 49 = some (3, .getfield 11) := by decide +kernel
theorem f_102_52 : zft 102 52 = some (1, .iload_n 3) := by decide +kernel
theorem f_102_53 : zft 102 53 = some (1, .iaload) := by decide +kernel
theorem f_102_54 : zft 102 54 = some (1, .ireturn) := by decide +kernel
theorem f_103_0 : zft 103 0 = some (1, .aload_n 0) := by decide +kernel
theorem f_103_1 : zft 103 1 = some (3, .invokespecial 3) := by decide +kernel
theorem f_103_4 : zft 103 4 = some (1, .aload_n 0) := by decide +kernel
theorem f_103_5 : zft 103 5 = some (3, .new 9) := by decide +kernel
theorem f_103_8 : zft 103 8 = some (1, .dup) := by decide +kernel
theorem f_103_9 : zft 103 9 = some (3, .invokespecial 11) := by decide +kernel
theorem f_103_12 : zft 103 12 = some (3, .putfield 12) := by decide +kernel
theorem f_103_15 : zft 103 15 = some (1, .aload_n 0) := by decide +kernel
theorem f_103_16 : zft 103 16 = some (3, .new 9) := by decide +kernel
theorem f_103_19 : zft 103 19 = some (1, .dup) := by decide +kernel
theorem f_103_20 : zft 103 20 = some (3, .invokespecial 11) := by decide +kernel
theorem f_103_23 : zft 103 23 = some (3, .putfield 16) := by decide +kernel
theorem f_103_26 : zft 103 26 = some (1, .aload_n 0) := by decide +kernel
theorem f_103_27 : zft 103 27 = some (3, .new 19) := by decide +kernel
theorem f_103_30 : zft 103 30 = some (1, .dup) := by decide +kernel
theorem f_103_31 : zft 103 31 = some (3, .invokespecial 21) := by decide +kernel
theorem f_103_34 : zft 103 34 = some (3, .putfield 22) := by decide +kernel
theorem f_103_37 : zft 103 37 = some (1, .aload_n 0) := by decide +kernel
theorem f_103_38 : zft 103 38 = some (3, .new 26) := by decide +kernel
theorem f_103_41 : zft 103 41 = some (1, .dup) := by decide +kernel
theorem f_103_42 : zft 103 42 = some (3, .invokespecial 28) := by decide +kernel
theorem f_103_45 : zft 103 45 = some (3, .putfield 29) := by decide +kernel
theorem f_103_48 : zft 103 48 = some (1, .aload_n 0) := by decide +kernel
theorem f_103_49 : zft 103 49 = some (3, .new 33) := by decide +kernel
theorem f_103_52 : zft 103 52 = some (1, .dup) := by decide +kernel
theorem f_103_53 : zft 103 53 = some (3, .invokespecial 35) := by decide +kernel
theorem f_103_56 : zft 103 56 = some (3, .putfield 36) := by decide +kernel
theorem f_103_59 : zft 103 59 = some (1, .aload_n 0) := by decide +kernel
theorem f_103_60 : zft 103 60 = some (3, .new 40) := by decide +kernel
theorem f_103_63 : zft 103 63 = some (1, .dup) := by decide +kernel
theorem f_103_64 : zft 103 64 = some (3, .invokespecial 42) := by decide +kernel
theorem f_103_67 : zft 103 67 = some (3, .putfield 43) := by decide +kernel
theorem f_103_70 : zft 103 70 = some (1, .aload_n 0) := by decide +kernel
theorem f_103_71 : zft 103 71 = some (3, .new 47) := by decide +kernel
theorem f_103_74 : zft 103 74 = some (1, .dup) := by decide +kernel
theorem f_103_75 : zft 103 75 = some (3, .invokespecial 49) := by decide +kernel
theorem f_103_78 : zft 103 78 = some (3, .putfield 50) := by decide +kernel
theorem f_103_81 : zft 103 81 = some (1, .aload_n 0) := by decide +kernel
theorem f_103_82 : zft 103 82 = some (3, .new 54) := by decide +kernel
theorem f_103_85 : zft 103 85 = some (1, .dup) := by decide +kernel
theorem f_103_86 : zft 103 86 = some (3, .invokespecial 56) := by decide +kernel
theorem f_103_89 : zft 103 89 = some (3, .putfield 57) := by decide +kernel
theorem f_103_92 : zft 103 92 = some (1, .aload_n 0) := by decide +kernel
theorem f_103_93 : zft 103 93 = some (3, .new 61) := by decide +kernel
theorem f_103_96 : zft 103 96 = some (1, .dup) := by decide +kernel
theorem f_103_97 : zft 103 97 = some (3, .invokespecial 63) := by decide +kernel
theorem f_103_100 : zft 103 100 = some (3, .putfield 64) := by decide +kernel
theorem f_103_103 : zft 103 103 = some (1, .aload_n 0) := by decide +kernel
theorem f_103_104 : zft 103 104 = some (1, .iconst 0) := by decide +kernel
theorem f_103_105 : zft 103 105 = some (3, .putfield 68) := by decide +kernel
theorem f_103_108 : zft 103 108 = some (1, .return_) := by decide +kernel
theorem f_104_0 : zft 104 0 = some (1, .aload_n 0) := by decide +kernel
theorem f_104_1 : zft 104 1 = some (3, .getfield 22) := by decide +kernel
theorem f_104_4 : zft 104 4 = some (1, .aload_n 0) := by decide +kernel
theorem f_104_5 : zft 104 5 = some (3, .getfield 12) := by decide +kernel
theorem f_104_8 : zft 104 8 = some (3, .invokevirtual 72) := by decide +kernel
theorem f_104_11 : zft 104 11 = some (1, .aload_n 0) := by decide +kernel
theorem f_104_12 : zft 104 12 = some (1, .aload_n 0) := by decide +kernel
theorem f_104_13 : zft 104 13 = some (3, .getfield 12) := by decide +kernel
theorem f_104_16 : zft 104 16 = some (1, .iload_n 1) := by decide +kernel
theorem f_104_17 : zft 104 17 = some (1, .iload_n 2) := by decide +kernel
theorem f_104_18 : zft 104 18 = some (1, .iload_n 3) := by decide +kernel
theorem f_104_19 : zft 104 19 = some (2, .iload 4) := by decide +kernel
theorem f_104_21 : zft 104 21 = some (3, .invokevirtual 76) := by decide +kernel
theorem f_104_24 : zft 104 24 = some (3, .invokevirtual 80) := by decide +kernel
theorem f_104_27 : zft 104 27 = some (1, .ireturn) := by decide +kernel
theorem f_105_0 : zft 105 0 = some (1, .aload_n 0) := by decide +kernel
theorem f_105_1 : zft 105 1 = some (3, .getfield 22) := by decide +kernel
theorem f_105_4 : zft 105 4 = some (1, .aload_n 0) := by decide +kernel
theorem f_105_5 : zft 105 5 = some (3, .getfield 12) := by decide +kernel
theorem f_105_8 : zft 105 8 = some (3, .invokevirtual 72) := by decide +kernel
theorem f_105_11 : zft 105 11 = some (1, .aload_n 0) := by decide +kernel
theorem f_105_12 : zft 105 12 = some (1, .aload_n 0) := by decide +kernel
theorem f_105_13 : zft 105 13 = some (3, .getfield 12) := by decide +kernel
theorem f_105_16 : zft 105 16 = some (1, .iload_n 1) := by decide +kernel
theorem f_105_17 : zft 105 17 = some (1, .iload_n 2) := by decide +kernel
theorem f_105_18 : zft 105 18 = some (3, .invokevirtual 84) := by decide +kernel
theorem f_105_21 : zft 105 21 = some (3, .invokevirtual 80) := by decide +kernel
theorem f_105_24 : zft 105 24 = some (1, .ireturn) := by decide +kernel
theorem f_106_0 : zft 106 0 = some (1, .aload_n 0) := by decide +kernel
theorem f_106_1 : zft 106 1 = some (3, .getfield 22) := by decide +kernel
theorem f_106_4 : zft 106 4 = some (1, .aload_n 0) := by decide +kernel
theorem f_106_5 : zft 106 5 = some (3, .getfield 12) := by decide +kernel
theorem f_106_8 : zft 106 8 = some (3, .invokevirtual 72) := by decide +kernel
theorem f_106_11 : zft 106 11 = some (1, .aload_n 0) := by decide +kernel
theorem f_106_12 : zft 106 12 = some (1, .aload_n 0) := by decide +kernel
theorem f_106_13 : zft 106 13 = some (3, .getfield 12) := by decide +kernel
theorem f_106_16 : zft 106 16 = some (1, .iload_n 1) := by decide +kernel
theorem f_106_17 : zft 106 17 = some (1, .iload_n 2) := by decide +kernel
theorem f_106_18 : zft 106 18 = some (3, .invokevirtual 88) := by decide +kernel
theorem f_106_21 : zft 106 21 = some (3, .invokevirtual 91) := by decide +kernel
theorem f_106_24 : zft 106 24 = some (1, .ireturn) := by decide +kernel
theorem f_107_0 : zft 107 0 = some (1, .aload_n 0) := by decide +kernel
theorem f_107_1 : zft 107 1 = some (3, .getfield 22) := by decide +kernel
theorem f_107_4 : zft 107 4 = some (1, .aload_n 0) := by decide +kernel
theorem f_107_5 : zft 107 5 = some (3, .getfield 12) := by decide +kernel
theorem f_107_8 : zft 107 8 = some (3, .invokevirtual 72) := by decide +kernel
theorem f_107_11 : zft 107 11 = some (1, .aload_n 0) := by decide +kernel
theorem f_107_12 : zft 107 12 = some (1, .aload_n 0) := by decide +kernel
theorem f_107_13 : zft 107 13 = some (3, .getfield 12) := by decide +kernel
theorem f_107_16 : zft 107 16 = some (1, .iload_n 1) := by decide +kernel
theorem f_107_17 : zft 107 17 = some (1, .iload_n 2) := by decide +kernel
theorem f_107_18 : zft 107 18 = some (3, .invokevirtual 94) := by decide +kernel
theorem f_107_21 : zft 107 21 = some (3, .invokevirtual 91) := by decide +kernel
theorem f_107_24 : zft 107 24 = some (1, .ireturn) := by decide +kernel
theorem f_108_0 : zft 108 0 = some (1, .aload_n 0) := by decide +kernel
theorem f_108_1 : zft 108 1 = some (3, .getfield 22) := by decide +kernel
theorem f_108_4 : zft 108 4 = some (1, .aload_n 0) := by decide +kernel
theorem f_108_5 : zft 108 5 = some (3, .getfield 12) := by decide +kernel
theorem f_108_8 : zft 108 8 = some (3, .invokevirtual 72) := by decide +kernel
theorem f_108_11 : zft 108 11 = some (1, .aload_n 0) := by decide +kernel
theorem f_108_12 : zft 108 12 = some (1, .aload_n 0) := by decide +kernel
theorem f_108_13 : zft 108 13 = some (3, .getfield 12) := by decide +kernel
theorem f_108_16 : zft 108 16 = some (1, .iload_n 1) := by decide +kernel
theorem f_108_17 : zft 108 17 = some (3, .invokevirtual 97) := by decide +kernel
theorem f_108_20 : zft 108 20 = some (3, .invokevirtual 80) := by decide +kernel
theorem f_108_23 : zft 108 23 = some (1, .ireturn) := by decide +kernel
theorem f_109_0 : zft 109 0 = some (1, .aload_n 0) := by decide +kernel
theorem f_109_1 : zft 109 1 = some (3, .getfield 22) := by decide +kernel
theorem f_109_4 : zft 109 4 = some (1, .aload_n 0) := by decide +kernel
theorem f_109_5 : zft 109 5 = some (3, .getfield 12) := by decide +kernel
theorem f_109_8 : zft 109 8 = some (3, .invokevirtual 72) := by decide +kernel
theorem f_109_11 : zft 109 11 = some (1, .aload_n 0) := by decide +kernel
theorem f_109_12 : zft 109 12 = some (1, .aload_n 0) := by decide +kernel
theorem f_109_13 : zft 109 13 = some (3, .getfield 12) := by decide +kernel
theorem f_109_16 : zft 109 16 = some (1, .iload_n 1) := by decide +kernel
theorem f_109_17 : zft 109 17 = some (3, .invokevirtual 100) := by decide +kernel
theorem f_109_20 : zft 109 20 = some (3, .invokevirtual 80) := by decide +kernel
theorem f_109_23 : zft 109 23 = some (1, .ireturn) := by decide +kernel
theorem f_110_0 : zft 110 0 = some (1, .aload_n 0) := by decide +kernel
theorem f_110_1 : zft 110 1 = some (3, .getfield 22) := by decide +kernel
theorem f_110_4 : zft 110 4 = some (1, .aload_n 0) := by decide +kernel
theorem f_110_5 : zft 110 5 = some (3, .getfield 12) := by decide +kernel
theorem f_110_8 : zft 110 8 = some (3, .invokevirtual 72) := by decide +kernel
theorem f_110_11 : zft 110 11 = some (1, .aload_n 0) := by decide +kernel
theorem f_110_12 : zft 110 12 = some (1, .aload_n 0) := by decide +kernel
theorem f_110_13 : zft 110 13 = some (3, .getfield 12) := by decide +kernel
theorem f_110_16 : zft 110 16 = some (1, .iload_n 1) := by decide +kernel
theorem f_110_17 : zft 110 17 = some (3, .invokevirtual 103) := by decide +kernel
theorem f_110_20 : zft 110 20 = some (3, .invokevirtual 80) := by decide +kernel
theorem f_110_23 : zft 110 23 = some (1, .ireturn) := by decide +kernel
theorem f_111_0 : zft 111 0 = some (1, .iload_n 2) := by decide +kernel
theorem f_111_1 : zft 111 1 = some (3, .ifCond .lt 8) := by decide +kernel
theorem f_111_4 : zft 111 4 = some (1, .iload_n 2) := by decide +kernel
theorem f_111_5 : zft 111 5 = some (1, .iconst 5) := by decide +kernel
theorem f_111_6 : zft 111 6 = some (3, .if_icmp .le 6) := by decide +kernel
theorem f_111_9 : zft 111 9 = some (2, .bipush (-102)) := by decide +kernel
theorem f_111_11 : zft 111 11 = some (1, .ireturn) := by decide +kernel
theorem f_111_12 : zft 111 12 = some (1, .aload_n 0) := by decide +kernel
theorem f_111_13 : zft 111 13 = some (3, .getfield 22) := by decide +kernel
theorem f_111_16 : zft 111 16 = some (1, .aload_n 0) := by decide +kernel
theorem f_111_17 : zft 111 17 = some (3, .getfield 12) := by decide +kernel
theorem f_111_20 : zft 111 20 = some (3, .invokevirtual 72) := by decide +kernel
theorem f_111_23 : zft 111 23 = some (1, .aload_n 0) := by decide +kernel
theorem f_111_24 : zft 111 24 = some (3, .getfield 36) := by decide +kernel
theorem f_111_27 : zft 111 27 = some (1, .aload_n 0) := by decide +kernel
theorem f_111_28 : zft 111 28 = some (3, .getfield 12) := by decide +kernel
theorem f_111_31 : zft 111 31 = some (1, .iload_n 1) := by decide +kernel
theorem f_111_32 : zft 111 32 = some (1, .iload_n 2) := by decide +kernel
theorem f_111_33 : zft 111 33 = some (3, .invokevirtual 106) := by decide +kernel
theorem f_111_36 : zft 111 36 = some (1, .aload_n 0) := by decide +kernel
theorem f_111_37 : zft 111 37 = some (1, .aload_n 0) := by decide +kernel
theorem f_111_38 : zft 111 38 = some (3, .getfield 12) := by decide +kernel
theorem f_111_41 : zft 111 41 = some (3, .getfield 110) := by decide +kernel
theorem f_111_44 : zft 111 44 = some (3, .invokevirtual 80) := by decide +kernel
theorem f_111_47 : zft 111 47 = some (1, .ireturn) := by decide +kernel
theorem f_112_0 : zft 112 0 = some (1, .aload_n 0) := by decide +kernel
theorem f_112_1 : zft 112 1 = some (3, .getfield 22) := by decide +kernel
theorem f_112_4 : zft 112 4 = some (1, .aload_n 0) := by decide +kernel
theorem f_112_5 : zft 112 5 = some (3, .getfield 12) := by decide +kernel
theorem f_112_8 : zft 112 8 = some (3, .invokevirtual 72) := by decide +kernel
theorem f_112_11 : zft 112 11 = some (1, .aload_n 0) := by decide +kernel
theorem f_112_12 : zft 112 12 = some (1, .aload_n 0) := by decide +kernel
theorem f_112_13 : zft 112 13 = some (3, .getfield 12) := by decide +kernel
theorem f_112_16 : zft 112 16 = some (3, .invokevirtual 114) := by decide +kernel
theorem f_112_19 : zft 112 19 = some (3, .invokevirtual 80) := by decide +kernel
theorem f_112_22 : zft 112 22 = some (1, .ireturn) := by decide +kernel
theorem f_113_0 : zft 113 0 = some (1, .aload_n 0) := by decide +kernel
theorem f_113_1 : zft 113 1 = some (3, .getfield 22) := by decide +kernel
theorem f_113_4 : zft 113 4 = some (1, .aload_n 0) := by decide +kernel
theorem f_113_5 : zft 113 5 = some (3, .getfield 12) := by decide +kernel
theorem f_113_8 : zft 113 8 = some (3, .invokevirtual 72) := by decide +kernel
theorem f_113_11 : zft 113 11 = some (1, .aload_n 0) := by decide +kernel
theorem f_113_12 : zft 113 12 = some (1, .aload_n 0) := by decide +kernel
theorem f_113_13 : zft 113 13 = some (3, .getfield 43) := by decide +kernel
theorem f_113_16 : zft 113 16 = some (1, .aload_n 0) := by decide +kernel
theorem f_113_17 : zft 113 17 = some (3, .getfield 12) := by decide +kernel
theorem f_113_20 : zft 113 20 = some (3, .invokevirtual 118) := by decide +kernel
theorem f_113_23 : zft 113 23 = some (3, .invokevirtual 80) := by decide +kernel
theorem f_113_26 : zft 113 26 = some (1, .ireturn) := by decide +kernel
theorem f_114_0 : zft 114 0 = some (1, .iload_n 1) := by decide +kernel
theorem f_114_1 : zft 114 1 = some (3, .ifCond .lt 8) := by decide +kernel
theorem f_114_4 : zft 114 4 = some (1, .iload_n 1) := by decide +kernel
theorem f_114_5 : zft 114 5 = some (1, .iconst 2) := by decide +kernel
theorem f_114_6 : zft 114 6 = some (3, .if_icmp .le 6) := by decide +kernel
theorem f_114_9 : zft 114 9 = some (2, .bipush (-102)) := by decide +kernel
theorem f_114_11 : zft 114 11 = some (1, .ireturn) := by decide +kernel
theorem f_114_12 : zft 114 12 = some (1, .aload_n 0) := by decide +kernel
theorem f_114_13 : zft 114 13 = some (3, .getfield 22) := by decide +kernel
theorem f_114_16 : zft 114 16 = some (1, .aload_n 0) := by decide +kernel
theorem f_114_17 : zft 114 17 = some (3, .getfield 12) := by decide +kernel
theorem f_114_20 : zft 114 20 = some (3, .invokevirtual 72) := by decide +kernel
theorem f_114_23 : zft 114 23 = some (1, .aload_n 0) := by decide +kernel
theorem f_114_24 : zft 114 24 = some (3, .getfield 12) := by decide +kernel
theorem f_114_27 : zft 114 27 = some (3, .getfield 122) := by decide +kernel
theorem f_114_30 : zft 114 30 = some (1, .istore_n 2) := by decide +kernel
theorem f_114_31 : zft 114 31 = some (1, .aload_n 0) := by decide +kernel
theorem f_114_32 : zft 114 32 = some (3, .getfield 12) := by decide +kernel
theorem f_114_35 : zft 114 35 = some (1, .iload_n 1) := by decide +kernel
theorem f_114_36 : zft 114 36 = some (3, .putfield 122) := by decide +kernel
theorem f_114_39 : zft 114 39 = some (1, .aload_n 0) := by decide +kernel
theorem f_114_40 : zft 114 40 = some (1, .iload_n 2) := by decide +kernel
theorem f_114_41 : zft 114 41 = some (3, .invokevirtual 80) := by decide +kernel
theorem f_114_44 : zft 114 44 = some (1, .ireturn) := by decide +kernel
theorem f_115_0 : zft 115 0 = some (1, .aload_n 0) := by decide +kernel
theorem f_115_1 : zft 115 1 = some (3, .getfield 29) := by decide +kernel
theorem f_115_4 : zft 115 4 = some (1, .iload_n 1) := by decide +kernel
theorem f_115_5 : zft 115 5 = some (3, .invokevirtual 125) := by decide +kernel
theorem f_115_8 : zft 115 8 = some (1, .ireturn) := by decide +kernel
theorem f_116_0 : zft 116 0 = some (1, .aload_n 0) := by decide +kernel
theorem f_116_1 : zft 116 1 = some (3, .getfield 29) := by decide +kernel
theorem f_116_4 : zft 116 4 = some (3, .invokevirtual 128) := by decide +kernel
theorem f_116_7 : zft 116 7 = some (3, .ifCond .ne 6) := by decide +kernel
theorem f_116_10 : zft 116 10 = some (2, .bipush (-102)) := by decide +kernel
theorem f_116_12 : zft 116 12 = some (1, .ireturn) := by decide +kernel
theorem f_116_13 : zft 116 13 = some (1, .aload_n 0) := by decide +kernel
theorem f_116_14 : zft 116 14 = some (3, .getfield 22) := by decide +kernel
theorem f_116_17 : zft 116 17 = some (1, .aload_n 0) := by decide +kernel
theorem f_116_18 : zft 116 18 = some (3, .getfield 12) := by decide +kernel
theorem f_116_21 : zft 116 21 = some (3, .invokevirtual 72) := by decide +kernel
theorem f_116_24 : zft 116 24 = some (1, .aload_n 0) := by decide +kernel
theorem f_116_25 : zft 116 25 = some (3, .getfield 29) := by decide +kernel
theorem f_116_28 : zft 116 28 = some (1, .aload_n 0) := by decide +kernel
theorem f_116_29 : zft 116 29 = some (3, .getfield 12) := by decide +kernel
theorem f_116_32 : zft 116 32 = some (3, .invokevirtual 132) := by decide +kernel
theorem f_116_35 : zft 116 35 = some (3, .ifCond .ne 17) := by decide +kernel
theorem f_116_38 : zft 116 38 = some (1, .aload_n 0) := by decide +kernel
theorem f_116_39 : zft 116 39 = some (3, .getfield 22) := by decide +kernel
theorem f_116_42 : zft 116 42 = some (1, .aload_n 0) := by decide +kernel
theorem f_116_43 : zft 116 43 = some (3, .getfield 12) := by decide +kernel
theorem f_116_46 : zft 116 46 = some (3, .invokevirtual 136) := by decide +kernel
theorem f_116_49 : zft 116 49 = some (2, .bipush (-105)) := by decide +kernel
theorem f_116_51 : zft 116 51 = some (1, .ireturn) := by decide +kernel
theorem f_116_52 : zft 116 52 = some (1, .aload_n 0) := by decide +kernel
theorem f_116_53 : zft 116 53 = some (1, .aload_n 0) := by decide +kernel
theorem f_116_54 : zft 116 54 = some (3, .getfield 29) := by decide +kernel
theorem f_116_57 : zft 116 57 = some (3, .getfield 139) := by decide +kernel
theorem f_116_60 : zft 116 60 = some (3, .invokevirtual 80) := by decide +kernel
theorem f_116_63 : zft 116 63 = some (1, .ireturn) := by decide +kernel
theorem f_117_0 : zft 117 0 = some (1, .aload_n 0) := by decide +kernel
theorem f_117_1 : zft 117 1 = some (3, .getfield 29) := by decide +kernel
theorem f_117_4 : zft 117 4 = some (3, .getfield 142) := by decide +kernel
theorem f_117_7 : zft 117 7 = some (1, .ireturn) := by decide +kernel
theorem f_118_0 : zft 118 0 = some (1, .aload_n 0) := by decide +kernel
theorem f_118_1 : zft 118 1 = some (3, .getfield 22) := by decide +kernel
theorem f_118_4 : zft 118 4 = some (1, .aload_n 0) := by decide +kernel
theorem f_118_5 : zft 118 5 = some (3, .getfield 12) := by decide +kernel
theorem f_118_8 : zft 118 8 = some (3, .invokevirtual 145) := by decide +kernel
theorem f_118_11 : zft 118 11 = some (1, .ireturn) := by decide +kernel
theorem f_119_0 : zft 119 0 = some (1, .iload_n 1) := by decide +kernel
theorem f_119_1 : zft 119 1 = some (55, .tableswitch 147 0 9 #[55, 63, 71, 79, 87, 95, 114, 122, 131, 139]) := by decide +kernel
theorem f_119_56 : zft 119 56 = some (1, .aload_n 0) := by decide +kernel
theorem f_119_57 : zft 119 57 = some (3, .getfield 12) := by decide +kernel
theorem f_119_60 : zft 119 60 = some (3, .getfield 110) := by decide +kernel
theorem f_119_63 : zft 119 63 = some (1, .ireturn) := by decide +kernel
theorem f_119_64 : zft 119 64 = some (1, .aload_n 0) := by decide +kernel
theorem f_119_65 : zft 119 65 = some (3, .getfield 12) := by decide +kernel
theorem f_119_68 : zft 119 68 = some (3, .getfield 148) := by decide +kernel
theorem f_119_71 : zft 119 71 = some (1, .ireturn) := by decide +kernel
theorem f_119_72 : zft 119 72 = some (1, .aload_n 0) := by decide +kernel
theorem f_119_73 : zft 119 73 = some (3, .getfield 12) := by decide +kernel
theorem f_119_76 : zft 119 76 = some (3, .invokevirtual 151) := by decide +kernel
theorem f_119_79 : zft 119 79 = some (1, .ireturn) := by decide +kernel
theorem f_119_80 : zft 119 80 = some (1, .aload_n 0) := by decide +kernel
theorem f_119_81 : zft 119 81 = some (3, .getfield 12) := by decide +kernel
theorem f_119_84 : zft 119 84 = some (3, .invokevirtual 154) := by decide +kernel
theorem f_119_87 : zft 119 87 = some (1, .ireturn) := by decide +kernel
theorem f_119_88 : zft 119 88 = some (1, .aload_n 0) := by decide +kernel
theorem f_119_89 : zft 119 89 = some (3, .getfield 12) := by decide +kernel
theorem f_119_92 : zft 119 92 = some (3, .invokevirtual 157) := by decide +kernel
theorem f_119_95 : zft 119 95 = some (1, .ireturn) := by decide +kernel
theorem f_119_96 : zft 119 96 = some (1, .aload_n 0) := by decide +kernel
theorem f_119_97 : zft 119 97 = some (3, .getfield 64) := by decide +kernel
theorem f_119_100 : zft 119 100 = some (1, .aload_n 0) := by decide +kernel
theorem f_119_101 : zft 119 101 = some (3, .getfield 12) := by decide +kernel
theorem f_119_104 : zft 119 104 = some (3, .invokevirtual 160) := by decide +kernel
theorem f_119_107 : zft 119 107 = some (1, .aload_n 0) := by decide +kernel
theorem f_119_108 : zft 119 108 = some (3, .getfield 64) := by decide +kernel
theorem f_119_111 : zft 119 111 = some (3, .invokevirtual 163) := by decide +kernel
theorem f_119_114 : zft 119 114 = some (1, .ireturn) := by decide +kernel
theorem f_119_115 : zft 119 115 = some (1, .aload_n 0) := by decide +kernel
theorem f_119_116 : zft 119 116 = some (3, .getfield 12) := by decide +kernel
theorem f_119_119 : zft 119 119 = some (3, .invokevirtual 166) := by decide +kernel
theorem f_119_122 : zft 119 122 = some (1, .ireturn) := by decide +kernel
theorem f_119_123 : zft 119 123 = some (1, .aload_n 0) := by decide +kernel
theorem f_119_124 : zft 119 124 = some (3, .getfield 12) := by decide +kernel
theorem f_119_127 : zft 119 127 = some (1, .iconst (-1)) := by decide +kernel
theorem f_119_128 : zft 119 128 = some (3, .invokestatic 169) := by decide +kernel
theorem f_119_131 : zft 119 131 = some (1, .ireturn) := by decide +kernel
theorem f_119_132 : zft 119 132 = some (1, .aload_n 0) := by decide +kernel
theorem f_119_133 : zft 119 133 = some (3, .getfield 12) := by decide +kernel
theorem f_119_136 : zft 119 136 = some (3, .invokestatic 175) := by decide +kernel
theorem f_119_139 : zft 119 139 = some (1, .ireturn) := by decide +kernel
theorem f_119_140 : zft 119 140 = some (1, .aload_n 0) := by decide +kernel
theorem f_119_141 : zft 119 141 = some (3, .getfield 29) := by decide +kernel
theorem f_119_144 : zft 119 144 = some (3, .getfield 178) := by decide +kernel
theorem f_119_147 : zft 119 147 = some (1, .ireturn) := by decide +kernel
theorem f_119_148 : zft 119 148 = some (2, .bipush (-102)) := by decide +kernel
theorem f_119_150 : zft 119 150 = some (1, .ireturn) := by decide +kernel
theorem f_120_0 : zft 120 0 = some (1, .aload_n 0) := by decide +kernel
theorem f_120_1 : zft 120 1 = some (3, .getfield 12) := by decide +kernel
theorem f_120_4 : zft 120 4 = some (1, .iload_n 1) := by decide +kernel
theorem f_120_5 : zft 120 5 = some (3, .invokevirtual 181) := by decide +kernel
theorem f_120_8 : zft 120 8 = some (3, .ifCond .ne 6) := by decide +kernel
theorem f_120_11 : zft 120 11 = some (2, .bipush (-101)) := by decide +kernel
theorem f_120_13 : zft 120 13 = some (1, .ireturn) := by decide +kernel
theorem f_120_14 : zft 120 14 = some (1, .iload_n 2) := by decide +kernel
theorem f_120_15 : zft 120 15 = some (45, .tableswitch 125 0 7 #[45, 55, 65, 75, 85, 98, 107, 116]) := by decide +kernel
theorem f_120_60 : zft 120 60 = some (1, .aload_n 0) := by decide +kernel
theorem f_120_61 : zft 120 61 = some (3, .getfield 12) := by decide +kernel
theorem f_120_64 : zft 120 64 = some (3, .getfield 185) := by decide +kernel
theorem f_120_67 : zft 120 67 = some (1, .iload_n 1) := by decide +kernel
theorem f_120_68 : zft 120 68 = some (1, .iaload) := by decide +kernel
theorem f_120_69 : zft 120 69 = some (1, .ireturn) := by decide +kernel
theorem f_120_70 : zft 120 70 = some (1, .aload_n 0) := by decide +kernel
theorem f_120_71 : zft 120 71 = some (3, .getfield 12) := by decide +kernel
theorem f_120_74 : zft 120 74 = some (3, .getfield 189) := by decide +kernel
theorem f_120_77 : zft 120 77 = some (1, .iload_n 1) := by decide +kernel
theorem f_120_78 : zft 120 78 = some (1, .iaload) := by decide +kernel
theorem f_120_79 : zft 120 79 = some (1, .ireturn) := by decide +kernel
theorem f_120_80 : zft 120 80 = some (1, .aload_n 0) := by decide +kernel
theorem f_120_81 : zft 120 81 = some (3, .getfield 12) := by decide +kernel
theorem f_120_84 : zft 120 84 = some (3, .getfield 192) := by decide +kernel
theorem f_120_87 : zft 120 87 = some (1, .iload_n 1) := by decide +kernel
theorem f_120_88 : zft 120 88 = some (1, .iaload) := by decide +kernel
theorem f_120_89 : zft 120 89 = some (1, .ireturn) := by decide +kernel
theorem f_120_90 : zft 120 90 = some (1, .aload_n 0) := by decide +kernel
theorem f_120_91 : zft 120 91 = some (3, .getfield 12) := by decide +kernel
theorem f_120_94 : zft 120 94 = some (3, .getfield 195) := by decide +kernel
theorem f_120_97 : zft 120 97 = some (1, .iload_n 1) := by decide +kernel
theorem f_120_98 : zft 120 98 = some (1, .iaload) := by decide +kernel
theorem f_120_99 : zft 120 99 = some (1, .ireturn) := by decide +kernel
theorem f_120_100 : zft 120 100 = some (1, .aload_n 0) := by decide +kernel
theorem f_120_101 : zft 120 101 = some (3, .getfield 12) := by decide +kernel
theorem f_120_104 : zft 120 104 = some (3, .getfield 198) := by decide +kernel
theorem f_120_107 : zft 120 107 = some (1, .iload_n 1) := by decide +kernel
theorem f_120_108 : zft 120 108 = some (1, .iaload) := by decide +kernel
theorem f_120_109 : zft 120 109 = some (3, .invokestatic 201) := by decide +kernel
theorem f_120_112 : zft 120 112 = some (1, .ireturn) := by decide +kernel
theorem f_120_113 : zft 120 113 = some (1, .aload_n 0) := by decide +kernel
theorem f_120_114 : zft 120 114 = some (3, .getfield 12) := by decide +kernel
theorem f_120_117 : zft 120 117 = some (1, .iload_n 1) := by decide +kernel
theorem f_120_118 : zft 120 118 = some (3, .invokevirtual 204) := by decide +kernel
theorem f_120_121 : zft 120 121 = some (1, .ireturn) := by decide +kernel
theorem f_120_122 : zft 120 122 = some (1, .aload_n 0) := by decide +kernel
theorem f_120_123 : zft 120 123 = some (3, .getfield 12) := by decide +kernel
theorem f_120_126 : zft 120 126 = some (1, .iload_n 1) := by decide +kernel
theorem f_120_127 : zft 120 127 = some (3, .invokevirtual 207) := by decide +kernel
theorem f_120_130 : zft 120 130 = some (1, .ireturn) := by decide +kernel
theorem f_120_131 : zft 120 131 = some (1, .aload_n 0) := by decide +kernel
theorem f_120_132 : zft 120 132 = some (3, .getfield 12) := by decide +kernel
theorem f_120_135 : zft 120 135 = some (1, .iload_n 1) := by decide +kernel
theorem f_120_136 : zft 120 136 = some (3, .invokevirtual 210) := by decide +kernel
theorem f_120_139 : zft 120 139 = some (1, .ireturn) := by decide +kernel
theorem f_120_140 : zft 120 140 = some (2, .bipush (-102)) := by decide +kernel
theorem f_120_142 : zft 120 142 = some (1, .ireturn) := by decide +kernel
theorem f_121_0 : zft 121 0 = some (1, .aload_n 0) := by decide +kernel
theorem f_121_1 : zft 121 1 = some (3, .getfield 12) := by decide +kernel
theorem f_121_4 : zft 121 4 = some (1, .iload_n 1) := by decide +kernel
theorem f_121_5 : zft 121 5 = some (3, .invokevirtual 213) := by decide +kernel
theorem f_121_8 : zft 121 8 = some (3, .ifCond .ne 6) := by decide +kernel
theorem f_121_11 : zft 121 11 = some (2, .bipush (-101)) := by decide +kernel
theorem f_121_13 : zft 121 13 = some (1, .ireturn) := by decide +kernel
theorem f_121_14 : zft 121 14 = some (1, .iload_n 2) := by decide +kernel
theorem f_121_15 : zft 121 15 = some (29, .tableswitch 86 0 3 #[29, 39, 49, 62]) := by decide +kernel
theorem f_121_44 : zft 121 44 = some (1, .aload_n 0) := by decide +kernel
theorem f_121_45 : zft 121 45 = some (3, .getfield 12) := by decide +kernel
theorem f_121_48 : zft 121 48 = some (3, .getfield 216) := by decide +kernel
theorem f_121_51 : zft 121 51 = some (1, .iload_n 1) := by decide +kernel
theorem f_121_52 : zft 121 52 = some (1, .iaload) := by decide +kernel
theorem f_121_53 : zft 121 53 = some (1, .ireturn) := by decide +kernel
theorem f_121_54 : zft 121 54 = some (1, .aload_n 0) := by decide +kernel
theorem f_121_55 : zft 121 55 = some (3, .getfield 12) := by decide +kernel
theorem f_121_58 : zft 121 58 = some (3, .getfield 219) := by decide +kernel
theorem f_121_61 : zft 121 61 = some (1, .iload_n 1) := by decide +kernel
theorem f_121_62 : zft 121 62 = some (1, .iaload) := by decide +kernel
theorem f_121_63 : zft 121 63 = some (1, .ireturn) := by decide +kernel
theorem f_121_64 : zft 121 64 = some (1, .aload_n 0) := by decide +kernel
theorem f_121_65 : zft 121 65 = some (3, .getfield 12) := by decide +kernel
theorem f_121_68 : zft 121 68 = some (3, .getfield 222) := by decide +kernel
theorem f_121_71 : zft 121 71 = some (1, .iload_n 1) := by decide +kernel
theorem f_121_72 : zft 121 72 = some (1, .iaload) := by decide +kernel
theorem f_121_73 : zft 121 73 = some (3, .invokestatic 201) := by decide +kernel
theorem f_121_76 : zft 121 76 = some (1, .ireturn) := by decide +kernel
theorem f_121_77 : zft 121 77 = some (1, .aload_n 0) := by decide +kernel
theorem f_121_78 : zft 121 78 = some (3, .getfield 64) := by decide +kernel
theorem f_121_81 : zft 121 81 = some (1, .aload_n 0) := by decide +kernel
theorem f_121_82 : zft 121 82 = some (3, .getfield 12) := by decide +kernel
theorem f_121_85 : zft 121 85 = some (3, .invokevirtual 160) := by decide +kernel
theorem f_121_88 : zft 121 88 = some (1, .aload_n 0) := by decide +kernel
theorem f_121_89 : zft 121 89 = some (3, .getfield 64) := by decide +kernel
theorem f_121_92 : zft 121 92 = some (1, .aload_n 0) := by decide +kernel
theorem f_121_93 : zft 121 93 = some (3, .getfield 12) := by decide +kernel
theorem f_121_96 : zft 121 96 = some (1, .iload_n 1) := by decide +kernel
theorem f_121_97 : zft 121 97 = some (3, .invokevirtual 225) := by decide +kernel
theorem f_121_100 : zft 121 100 = some (1, .ireturn) := by decide +kernel
theorem f_121_101 : zft 121 101 = some (2, .bipush (-102)) := by decide +kernel
theorem f_121_103 : zft 121 103 = some (1, .ireturn) := by decide +kernel
theorem f_122_0 : zft 122 0 = some (1, .aload_n 0) := by decide +kernel
theorem f_122_1 : zft 122 1 = some (3, .getfield 12) := by decide +kernel
theorem f_122_4 : zft 122 4 = some (1, .iload_n 1) := by decide +kernel
theorem f_122_5 : zft 122 5 = some (3, .invokevirtual 181) := by decide +kernel
theorem f_122_8 : zft 122 8 = some (3, .ifCond .eq 14) := by decide +kernel
theorem f_122_11 : zft 122 11 = some (1, .aload_n 0) := by decide +kernel
theorem f_122_12 : zft 122 12 = some (3, .getfield 12) := by decide +kernel
theorem f_122_15 : zft 122 15 = some (1, .iload_n 2) := by decide +kernel
theorem f_122_16 : zft 122 16 = some (3, .invokevirtual 181) := by decide +kernel
theorem f_122_19 : zft 122 19 = some (3, .ifCond .ne 6) := by decide +kernel
theorem f_122_22 : zft 122 22 = some (2, .bipush (-101)) := by decide +kernel
theorem f_122_24 : zft 122 24 = some (1, .ireturn) := by decide +kernel
theorem f_122_25 : zft 122 25 = some (1, .aload_n 0) := by decide +kernel
theorem f_122_26 : zft 122 26 = some (3, .getfield 12) := by decide +kernel
theorem f_122_29 : zft 122 29 = some (1, .iload_n 1) := by decide +kernel
theorem f_122_30 : zft 122 30 = some (1, .iload_n 2) := by decide +kernel
theorem f_122_31 : zft 122 31 = some (3, .invokevirtual 228) := by decide +kernel
theorem f_122_34 : zft 122 34 = some (1, .istore_n 3) := by decide +kernel
theorem f_122_35 : zft 122 35 = some (1, .iload_n 3) := by decide +kernel
theorem f_122_36 : zft 122 36 = some (1, .iconst (-1)) := by decide +kernel
theorem f_122_37 : zft 122 37 = some (3, .if_icmp .ne 8) := by decide +kernel
theorem f_122_40 : zft 122 40 = some (2, .bipush (-104)) := by decide +kernel
theorem f_122_42 : zft 122 42 = some (3, .goto 4) := by decide +kernel
theorem f_122_45 : zft 122 45 = some (1, .iload_n 3) := by decide +kernel
theorem f_122_46 : zft 122 46 = some (1, .ireturn) := by decide +kernel
theorem f_123_0 : zft 123 0 = some (1, .aload_n 0) := by decide +kernel
theorem f_123_1 : zft 123 1 = some (3, .getfield 12) := by decide +kernel
theorem f_123_4 : zft 123 4 = some (3, .getfield 110) := by decide +kernel
theorem f_123_7 : zft 123 7 = some (3, .ifCond .ne 8) := by decide +kernel
theorem f_123_10 : zft 123 10 = some (2, .bipush (-104)) := by decide +kernel
theorem f_123_12 : zft 123 12 = some (3, .goto 10) := by decide +kernel
theorem f_123_15 : zft 123 15 = some (1, .aload_n 0) := by decide +kernel
theorem f_123_16 : zft 123 16 = some (3, .getfield 12) := by decide +kernel
theorem f_123_19 : zft 123 19 = some (3, .getfield 231) := by decide +kernel
theorem f_123_22 : zft 123 22 = some (1, .ireturn) := by decide +kernel
theorem f_124_0 : zft 124 0 = some (1, .iload_n 1) := by decide +kernel
theorem f_124_1 : zft 124 1 = some (1, .iload_n 2) := by decide +kernel
theorem f_124_2 : zft 124 2 = some (3, .invokestatic 234) := by decide +kernel
theorem f_124_5 : zft 124 5 = some (1, .istore_n 3) := by decide +kernel
theorem f_124_6 : zft 124 6 = some (1, .iload_n 3) := by decide +kernel
theorem f_124_7 : zft 124 7 = some (1, .iconst (-1)) := by decide +kernel
theorem f_124_8 : zft 124 8 = some (3, .if_icmp .ne 6) := by decide +kernel
theorem f_124_11 : zft 124 11 = some (2, .bipush (-101)) := by decide +kernel
theorem f_124_13 : zft 124 13 = some (1, .ireturn) := by decide +kernel
theorem f_124_14 : zft 124 14 = some (1, .aload_n 0) := by decide +kernel
theorem f_124_15 : zft 124 15 = some (3, .getfield 64) := by decide +kernel
theorem f_124_18 : zft 124 18 = some (1, .aload_n 0) := by decide +kernel
theorem f_124_19 : zft 124 19 = some (3, .getfield 12) := by decide +kernel
theorem f_124_22 : zft 124 22 = some (3, .invokevirtual 160) := by decide +kernel
theorem f_124_25 : zft 124 25 = some (1, .aload_n 0) := by decide +kernel
theorem f_124_26 : zft 124 26 = some (3, .getfield 64) := by decide +kernel
theorem f_124_29 : zft 124 29 = some (1, .iload_n 3) := by decide +kernel
theorem f_124_30 : zft 124 30 = some (3, .invokevirtual 237) := by decide +kernel
theorem f_124_33 : zft 124 33 = some (1, .ireturn) := by decide +kernel
theorem f_125_0 : zft 125 0 = some (1, .iload_n 1) := by decide +kernel
theorem f_125_1 : zft 125 1 = some (1, .iload_n 2) := by decide +kernel
theorem f_125_2 : zft 125 2 = some (3, .invokestatic 234) := by decide +kernel
theorem f_125_5 : zft 125 5 = some (1, .istore_n 3) := by decide +kernel
theorem f_125_6 : zft 125 6 = some (1, .iload_n 3) := by decide +kernel
theorem f_125_7 : zft 125 7 = some (1, .iconst (-1)) := by decide +kernel
theorem f_125_8 : zft 125 8 = some (3, .if_icmp .ne 6) := by decide +kernel
theorem f_125_11 : zft 125 11 = some (2, .bipush (-101)) := by decide +kernel
theorem f_125_13 : zft 125 13 = some (1, .ireturn) := by decide +kernel
theorem f_125_14 : zft 125 14 = some (1, .aload_n 0) := by decide +kernel
theorem f_125_15 : zft 125 15 = some (3, .getfield 64) := by decide +kernel
theorem f_125_18 : zft 125 18 = some (1, .aload_n 0) := by decide +kernel
theorem f_125_19 : zft 125 19 = some (3, .getfield 12) := by decide +kernel
theorem f_125_22 : zft 125 22 = some (3, .invokevirtual 160) := by decide +kernel
theorem f_125_25 : zft 125 25 = some (1, .aload_n 0) := by decide +kernel
theorem f_125_26 : zft 125 26 = some (3, .getfield 64) := by decide +kernel
theorem f_125_29 : zft 125 29 = some (1, .aload_n 0) := by decide +kernel
theorem f_125_30 : zft 125 30 = some (3, .getfield 12) := by decide +kernel
theorem f_125_33 : zft 125 33 = some (1, .iload_n 3) := by decide +kernel
theorem f_125_34 : zft 125 34 = some (3, .invokevirtual 240) := by decide +kernel
theorem f_125_37 : zft 125 37 = some (1, .ireturn) := by decide +kernel
theorem f_126_0 : zft 126 0 = some (1, .iload_n 1) := by decide +kernel
theorem f_126_1 : zft 126 1 = some (1, .iload_n 2) := by decide +kernel
theorem f_126_2 : zft 126 2 = some (3, .invokestatic 234) := by decide +kernel
theorem f_126_5 : zft 126 5 = some (2, .istore 5) := by decide +kernel
theorem f_126_7 : zft 126 7 = some (1, .iload_n 3) := by decide +kernel
theorem f_126_8 : zft 126 8 = some (2, .iload 4) := by decide +kernel
theorem f_126_10 : zft 126 10 = some (3, .invokestatic 234) := by decide +kernel
theorem f_126_13 : zft 126 13 = some (2, .istore 6) := by decide +kernel
theorem f_126_15 : zft 126 15 = some (2, .iload 5) := by decide +kernel
theorem f_126_17 : zft 126 17 = some (1, .iconst (-1)) := by decide +kernel
theorem f_126_18 : zft 126 18 = some (3, .if_icmp .eq 9) := by decide +kernel
theorem f_126_21 : zft 126 21 = some (2, .iload 6) := by decide +kernel
theorem f_126_23 : zft 126 23 = some (1, .iconst (-1)) := by decide +kernel
theorem f_126_24 : zft 126 24 = some (3, .if_icmp .ne 6) := by decide +kernel
theorem f_126_27 : zft 126 27 = some (2, .bipush (-101)) := by decide +kernel
theorem f_126_29 : zft 126 29 = some (1, .ireturn) := by decide +kernel
theorem f_126_30 : zft 126 30 = some (1, .aload_n 0) := by decide +kernel
theorem f_126_31 : zft 126 31 = some (3, .getfield 64) := by decide +kernel
theorem f_126_34 : zft 126 34 = some (1, .aload_n 0) := by decide +kernel
theorem f_126_35 : zft 126 35 = some (3, .getfield 12) := by decide +kernel
theorem f_126_38 : zft 126 38 = some (3, .invokevirtual 160) := by decide +kernel
theorem f_126_41 : zft 126 41 = some (1, .aload_n 0) := by decide +kernel
theorem f_126_42 : zft 126 42 = some (3, .getfield 64) := by decide +kernel
theorem f_126_45 : zft 126 45 = some (2, .iload 5) := by decide +kernel
theorem f_126_47 : zft 126 47 = some (3, .invokevirtual 243) := by decide +kernel
theorem f_126_50 : zft 126 50 = some (3, .ifCond .eq 15) := by decide +kernel
theorem f_126_53 : zft 126 53 = some (1, .aload_n 0) := by decide +kernel
theorem f_126_54 : zft 126 54 = some (3, .getfield 64) := by decide +kernel
theorem f_126_57 : zft 126 57 = some (2, .iload 6) := by decide +kernel
theorem f_126_59 : zft 126 59 = some (3, .invokevirtual 243) := by decide +kernel
theorem f_126_62 : zft 126 62 = some (3, .ifCond .ne 6) := by decide +kernel
theorem f_126_65 : zft 126 65 = some (2, .bipush (-102)) := by decide +kernel
theorem f_126_67 : zft 126 67 = some (1, .ireturn) := by decide +kernel
theorem f_126_68 : zft 126 68 = some (1, .aload_n 0) := by decide +kernel
theorem f_126_69 : zft 126 69 = some (3, .getfield 64) := by decide +kernel
theorem f_126_72 : zft 126 72 = some (2, .iload 5) := by decide +kernel
theorem f_126_74 : zft 126 74 = some (2, .iload 6) := by decide +kernel
theorem f_126_76 : zft 126 76 = some (3, .invokevirtual 246) := by decide +kernel
theorem f_126_79 : zft 126 79 = some (1, .ireturn) := by decide +kernel
theorem f_127_0 : zft 127 0 = some (1, .aload_n 0) := by decide +kernel
theorem f_127_1 : zft 127 1 = some (3, .getfield 12) := by decide +kernel
theorem f_127_4 : zft 127 4 = some (1, .iload_n 1) := by decide +kernel
theorem f_127_5 : zft 127 5 = some (3, .invokevirtual 181) := by decide +kernel
theorem f_127_8 : zft 127 8 = some (3, .ifCond .ne 6) := by decide +kernel
theorem f_127_11 : zft 127 11 = some (2, .bipush (-101)) := by decide +kernel
theorem f_127_13 : zft 127 13 = some (1, .ireturn) := by decide +kernel
theorem f_127_14 : zft 127 14 = some (1, .aload_n 0) := by decide +kernel
theorem f_127_15 : zft 127 15 = some (3, .getfield 50) := by decide +kernel
theorem f_127_18 : zft 127 18 = some (1, .aload_n 0) := by decide +kernel
theorem f_127_19 : zft 127 19 = some (3, .getfield 12) := by decide +kernel
theorem f_127_22 : zft 127 22 = some (3, .invokevirtual 249) := by decide +kernel
theorem f_127_25 : zft 127 25 = some (1, .aload_n 0) := by decide +kernel
theorem f_127_26 : zft 127 26 = some (3, .getfield 50) := by decide +kernel
theorem f_127_29 : zft 127 29 = some (3, .getfield 252) := by decide +kernel
theorem f_127_32 : zft 127 32 = some (1, .iload_n 1) := by decide +kernel
theorem f_127_33 : zft 127 33 = some (1, .iaload) := by decide +kernel
theorem f_127_34 : zft 127 34 = some (1, .ireturn) := by decide +kernel
theorem f_128_0 : zft 128 0 = some (1, .aload_n 0) := by decide +kernel
theorem f_128_1 : zft 128 1 = some (3, .getfield 12) := by decide +kernel
theorem f_128_4 : zft 128 4 = some (1, .iload_n 1) := by decide +kernel
theorem f_128_5 : zft 128 5 = some (3, .invokevirtual 181) := by decide +kernel
theorem f_128_8 : zft 128 8 = some (3, .ifCond .ne 6) := by decide +kernel
theorem f_128_11 : zft 128 11 = some (2, .bipush (-101)) := by decide +kernel
theorem f_128_13 : zft 128 13 = some (1, .ireturn) := by decide +kernel
theorem f_128_14 : zft 128 14 = some (1, .aload_n 0) := by decide +kernel
theorem f_128_15 : zft 128 15 = some (3, .getfield 50) := by decide +kernel
theorem f_128_18 : zft 128 18 = some (1, .aload_n 0) := by decide +kernel
theorem f_128_19 : zft 128 19 = some (3, .getfield 12) := by decide +kernel
theorem f_128_22 : zft 128 22 = some (3, .invokevirtual 249) := by decide +kernel
theorem f_128_25 : zft 128 25 = some (1, .aload_n 0) := by decide +kernel
theorem f_128_26 : zft 128 26 = some (3, .getfield 50) := by decide +kernel
theorem f_128_29 : zft 128 29 = some (3, .getfield 255) := by decide +kernel
theorem f_128_32 : zft 128 32 = some (1, .iload_n 1) := by decide +kernel
theorem f_128_33 : zft 128 33 = some (1, .iaload) := by decide +kernel
theorem f_128_34 : zft 128 34 = some (1, .ireturn) := by decide +kernel
theorem f_129_0 : zft 129 0 = some (1, .aload_n 0) := by decide +kernel
theorem f_129_1 : zft 129 1 = some (3, .getfield 50) := by decide +kernel
theorem f_129_4 : zft 129 4 = some (1, .aload_n 0) := by decide +kernel
theorem f_129_5 : zft 129 5 = some (3, .getfield 12) := by decide +kernel
theorem f_129_8 : zft 129 8 = some (3, .invokevirtual 249) := by decide +kernel
theorem f_129_11 : zft 129 11 = some (1, .aload_n 0) := by decide +kernel
theorem f_129_12 : zft 129 12 = some (3, .getfield 50) := by decide +kernel
theorem f_129_15 : zft 129 15 = some (3, .getfield 258) := by decide +kernel
theorem f_129_18 : zft 129 18 = some (1, .ireturn) := by decide +kernel
theorem f_130_0 : zft 130 0 = some (1, .aload_n 0) := by decide +kernel
theorem f_130_1 : zft 130 1 = some (3, .getfield 50) := by decide +kernel
theorem f_130_4 : zft 130 4 = some (1, .aload_n 0) := by decide +kernel
theorem f_130_5 : zft 130 5 = some (3, .getfield 12) := by decide +kernel
theorem f_130_8 : zft 130 8 = some (3, .invokevirtual 249) := by decide +kernel
theorem f_130_11 : zft 130 11 = some (1, .aload_n 0) := by decide +kernel
theorem f_130_12 : zft 130 12 = some (3, .getfield 50) := by decide +kernel
theorem f_130_15 : zft 130 15 = some (1, .iload_n 1) := by decide +kernel
theorem f_130_16 : zft 130 16 = some (3, .invokevirtual 261) := by decide +kernel
theorem f_130_19 : zft 130 19 = some (3, .ifCond .eq 15) := by decide +kernel
theorem f_130_22 : zft 130 22 = some (1, .aload_n 0) := by decide +kernel
theorem f_130_23 : zft 130 23 = some (3, .getfield 50) := by decide +kernel
theorem f_130_26 : zft 130 26 = some (3, .getfield 264) := by decide +kernel
theorem f_130_29 : zft 130 29 = some (1, .iload_n 1) := by decide +kernel
theorem f_130_30 : zft 130 30 = some (1, .iaload) := by decide +kernel
theorem f_130_31 : zft 130 31 = some (3, .goto 5) := by decide +kernel
theorem f_130_34 : zft 130 34 = some (2, .bipush (-101)) := by decide +kernel
theorem f_130_36 : zft 130 36 = some (1, .ireturn) := by decide +kernel
theorem f_131_0 : zft 131 0 = some (1, .aload_n 0) := by decide +kernel
theorem f_131_1 : zft 131 1 = some (3, .getfield 12) := by decide +kernel
theorem f_131_4 : zft 131 4 = some (1, .iload_n 1) := by decide +kernel
theorem f_131_5 : zft 131 5 = some (3, .invokevirtual 181) := by decide +kernel
theorem f_131_8 : zft 131 8 = some (3, .ifCond .ne 6) := by decide +kernel
theorem f_131_11 : zft 131 11 = some (2, .bipush (-101)) := by decide +kernel
theorem f_131_13 : zft 131 13 = some (1, .ireturn) := by decide +kernel
theorem f_131_14 : zft 131 14 = some (1, .aload_n 0) := by decide +kernel
theorem f_131_15 : zft 131 15 = some (3, .getfield 50) := by decide +kernel
theorem f_131_18 : zft 131 18 = some (1, .aload_n 0) := by decide +kernel
theorem f_131_19 : zft 131 19 = some (3, .getfield 12) := by decide +kernel
theorem f_131_22 : zft 131 22 = some (3, .invokevirtual 249) := by decide +kernel
theorem f_131_25 : zft 131 25 = some (1, .aload_n 0) := by decide +kernel
theorem f_131_26 : zft 131 26 = some (3, .getfield 50) := by decide +kernel
theorem f_131_29 : zft 131 29 = some (1, .iload_n 1) := by decide +kernel
theorem f_131_30 : zft 131 30 = some (3, .invokevirtual 267) := by decide +kernel
theorem f_131_33 : zft 131 33 = some (1, .ireturn) := by decide +kernel
theorem f_132_0 : zft 132 0 = some (1, .aload_n 0) := by decide +kernel
theorem f_132_1 : zft 132 1 = some (3, .getfield 12) := by decide +kernel
theorem f_132_4 : zft 132 4 = some (3, .getfield 110) := by decide +kernel
theorem f_132_7 : zft 132 7 = some (3, .ifCond .ne 6) := by decide +kernel
theorem f_132_10 : zft 132 10 = some (2, .bipush (-104)) := by decide +kernel
theorem f_132_12 : zft 132 12 = some (1, .ireturn) := by decide +kernel
theorem f_132_13 : zft 132 13 = some (1, .aload_n 0) := by decide +kernel
theorem f_132_14 : zft 132 14 = some (3, .getfield 50) := by decide +kernel
theorem f_132_17 : zft 132 17 = some (1, .aload_n 0) := by decide +kernel
theorem f_132_18 : zft 132 18 = some (3, .getfield 12) := by decide +kernel
theorem f_132_21 : zft 132 21 = some (3, .invokevirtual 249) := by decide +kernel
theorem f_132_24 : zft 132 24 = some (1, .aload_n 0) := by decide +kernel
theorem f_132_25 : zft 132 25 = some (3, .getfield 50) := by decide +kernel
theorem f_132_28 : zft 132 28 = some (3, .getfield 258) := by decide +kernel
theorem f_132_31 : zft 132 31 = some (1, .aload_n 0) := by decide +kernel
theorem f_132_32 : zft 132 32 = some (3, .getfield 12) := by decide +kernel
theorem f_132_35 : zft 132 35 = some (3, .getfield 110) := by decide +kernel
theorem f_132_38 : zft 132 38 = some (3, .if_icmp .ne 7) := by decide +kernel
theorem f_132_41 : zft 132 41 = some (1, .iconst 1) := by decide +kernel
theorem f_132_42 : zft 132 42 = some (3, .goto 4) := by decide +kernel
theorem f_132_45 : zft 132 45 = some (1, .iconst 0) := by decide +kernel
theorem f_132_46 : zft 132 46 = some (1, .ireturn) := by decide +kernel
theorem f_133_0 : zft 133 0 = some (1, .aload_n 0) := by decide +kernel
theorem f_133_1 : zft 133 1 = some (3, .getfield 12) := by decide +kernel
theorem f_133_4 : zft 133 4 = some (1, .aload_n 0) := by decide +kernel
theorem f_133_5 : zft 133 5 = some (3, .getfield 12) := by decide +kernel
theorem f_133_8 : zft 133 8 = some (1, .iconst 0) := by decide +kernel
theorem f_133_9 : zft 133 9 = some (1, .iconst 0) := by decide +kernel
theorem f_133_10 : zft 133 10 = some (3, .invokestatic 270) := by decide +kernel
theorem f_133_13 : zft 133 13 = some (3, .invokestatic 274) := by decide +kernel
theorem f_133_16 : zft 133 16 = some (1, .ireturn) := by decide +kernel
theorem f_134_0 : zft 134 0 = some (1, .aload_n 0) := by decide +kernel
theorem f_134_1 : zft 134 1 = some (3, .getfield 12) := by decide +kernel
theorem f_134_4 : zft 134 4 = some (1, .iload_n 1) := by decide +kernel
theorem f_134_5 : zft 134 5 = some (3, .invokevirtual 181) := by decide +kernel
theorem f_134_8 : zft 134 8 = some (3, .ifCond .ne 6) := by decide +kernel
theorem f_134_11 : zft 134 11 = some (2, .bipush (-101)) := by decide +kernel
theorem f_134_13 : zft 134 13 = some (1, .ireturn) := by decide +kernel
theorem f_134_14 : zft 134 14 = some (1, .aload_n 0) := by decide +kernel
theorem f_134_15 : zft 134 15 = some (3, .getfield 12) := by decide +kernel
theorem f_134_18 : zft 134 18 = some (1, .iconst 0) := by decide +kernel
theorem f_134_19 : zft 134 19 = some (1, .iconst 0) := by decide +kernel
theorem f_134_20 : zft 134 20 = some (3, .invokestatic 270) := by decide +kernel
theorem f_134_23 : zft 134 23 = some (1, .iload_n 1) := by decide +kernel
theorem f_134_24 : zft 134 24 = some (3, .invokestatic 277) := by decide +kernel
theorem f_134_27 : zft 134 27 = some (3, .ifCond .ne 6) := by decide +kernel
theorem f_134_30 : zft 134 30 = some (2, .bipush (-104)) := by decide +kernel
theorem f_134_32 : zft 134 32 = some (1, .ireturn) := by decide +kernel
theorem f_134_33 : zft 134 33 = some (1, .iconst 0) := by decide +kernel
theorem f_134_34 : zft 134 34 = some (1, .istore_n 2) := by decide +kernel
theorem f_134_35 : zft 134 35 = some (1, .iconst 0) := by decide +kernel
theorem f_134_36 : zft 134 36 = some (1, .istore_n 3) := by decide +kernel
theorem f_134_37 : zft 134 37 = some (1, .iload_n 3) := by decide +kernel
theorem f_134_38 : zft 134 38 = some (2, .bipush 6) := by decide +kernel
theorem f_134_40 : zft 134 40 = some (3, .if_icmp .ge 33) := by decide +kernel
theorem f_134_43 : zft 134 43 = some (1, .aload_n 0) := by decide +kernel
theorem f_134_44 : zft 134 44 = some (3, .getfield 12) := by decide +kernel
theorem f_134_47 : zft 134 47 = some (1, .iconst 1) := by decide +kernel
theorem f_134_48 : zft 134 48 = some (1, .iload_n 3) := by decide +kernel
theorem f_134_49 : zft 134 49 = some (1, .ishl) := by decide +kernel
theorem f_134_50 : zft 134 50 = some (1, .iconst 0) := by decide +kernel
theorem f_134_51 : zft 134 51 = some (3, .invokestatic 270) := by decide +kernel
theorem f_134_54 : zft 134 54 = some (1, .iload_n 1) := by decide +kernel
theorem f_134_55 : zft 134 55 = some (3, .invokestatic 277) := by decide +kernel
theorem f_134_58 : zft 134 58 = some (3, .ifCond .ne 9) := by decide +kernel
theorem f_134_61 : zft 134 61 = some (1, .iload_n 2) := by decide +kernel
theorem f_134_62 : zft 134 62 = some (1, .iconst 1) := by decide +kernel
theorem f_134_63 : zft 134 63 = some (1, .iload_n 3) := by decide +kernel
theorem f_134_64 : zft 134 64 = some (1, .ishl) := by decide +kernel
theorem f_134_65 : zft 134 65 = some (1, .ior) := by decide +kernel
theorem f_134_66 : zft 134 66 = some (1, .istore_n 2) := by decide +kernel
theorem f_134_67 : zft 134 67 = some (3, .iinc 3 1) := by decide +kernel
theorem f_134_70 : zft 134 70 = some (3, .goto (-33)) := by decide +kernel
theorem f_134_73 : zft 134 73 = some (1, .iload_n 2) := by decide +kernel
theorem f_134_74 : zft 134 74 = some (1, .ireturn) := by decide +kernel
theorem f_135_0 : zft 135 0 = some (1, .aload_n 0) := by decide +kernel
theorem f_135_1 : zft 135 1 = some (3, .getfield 12) := by decide +kernel
theorem f_135_4 : zft 135 4 = some (1, .iload_n 1) := by decide +kernel
theorem f_135_5 : zft 135 5 = some (3, .invokevirtual 181) := by decide +kernel
theorem f_135_8 : zft 135 8 = some (3, .ifCond .ne 6) := by decide +kernel
theorem f_135_11 : zft 135 11 = some (2, .bipush (-101)) := by decide +kernel
theorem f_135_13 : zft 135 13 = some (1, .ireturn) := by decide +kernel
theorem f_135_14 : zft 135 14 = some (1, .aload_n 0) := by decide +kernel
theorem f_135_15 : zft 135 15 = some (3, .getfield 12) := by decide +kernel
theorem f_135_18 : zft 135 18 = some (1, .iconst 0) := by decide +kernel
theorem f_135_19 : zft 135 19 = some (1, .iconst 0) := by decide +kernel
theorem f_135_20 : zft 135 20 = some (3, .invokestatic 270) := by decide +kernel
theorem f_135_23 : zft 135 23 = some (1, .iload_n 1) := by decide +kernel
theorem f_135_24 : zft 135 24 = some (3, .invokestatic 277) := by decide +kernel
theorem f_135_27 : zft 135 27 = some (3, .ifCond .eq 6) := by decide +kernel
theorem f_135_30 : zft 135 30 = some (2, .bipush (-104)) := by decide +kernel
theorem f_135_32 : zft 135 32 = some (1, .ireturn) := by decide +kernel
theorem f_135_33 : zft 135 33 = some (1, .iconst 0) := by decide +kernel
theorem f_135_34 : zft 135 34 = some (1, .istore_n 2) := by decide +kernel
theorem f_135_35 : zft 135 35 = some (1, .iconst 0) := by decide +kernel
theorem f_135_36 : zft 135 36 = some (1, .istore_n 3) := by decide +kernel
theorem f_135_37 : zft 135 37 = some (1, .iload_n 3) := by decide +kernel
theorem f_135_38 : zft 135 38 = some (2, .bipush 6) := by decide +kernel
theorem f_135_40 : zft 135 40 = some (3, .if_icmp .ge 33) := by decide +kernel
theorem f_135_43 : zft 135 43 = some (1, .aload_n 0) := by decide +kernel
theorem f_135_44 : zft 135 44 = some (3, .getfield 12) := by decide +kernel
theorem f_135_47 : zft 135 47 = some (1, .iconst 0) := by decide +kernel
theorem f_135_48 : zft 135 48 = some (1, .iconst 1) := by decide +kernel
theorem f_135_49 : zft 135 49 = some (1, .iload_n 3) := by decide +kernel
theorem f_135_50 : zft 135 50 = some (1, .ishl) := by decide +kernel
theorem f_135_51 : zft 135 51 = some (3, .invokestatic 270) := by decide +kernel
theorem f_135_54 : zft 135 54 = some (1, .iload_n 1) := by decide +kernel
theorem f_135_55 : zft 135 55 = some (3, .invokestatic 277) := by decide +kernel
theorem f_135_58 : zft 135 58 = some (3, .ifCond .eq 9) := by decide +kernel
theorem f_135_61 : zft 135 61 = some (1, .iload_n 2) := by decide +kernel
theorem f_135_62 : zft 135 62 = some (1, .iconst 1) := by decide +kernel
theorem f_135_63 : zft 135 63 = some (1, .iload_n 3) := by decide +kernel
theorem f_135_64 : zft 135 64 = some (1, .ishl) := by decide +kernel
theorem f_135_65 : zft 135 65 = some (1, .ior) := by decide +kernel
theorem f_135_66 : zft 135 66 = some (1, .istore_n 2) := by decide +kernel
theorem f_135_67 : zft 135 67 = some (3, .iinc 3 1) := by decide +kernel
theorem f_135_70 : zft 135 70 = some (3, .goto (-33)) := by decide +kernel
theorem f_135_73 : zft 135 73 = some (1, .iload_n 2) := by decide +kernel
theorem f_135_74 : zft 135 74 = some (1, .ireturn) := by decide +kernel
theorem f_136_0 : zft 136 0 = some (1, .aload_n 0) := by decide +kernel
theorem f_136_1 : zft 136 1 = some (3, .getfield 12) := by decide +kernel
theorem f_136_4 : zft 136 4 = some (1, .iload_n 1) := by decide +kernel
theorem f_136_5 : zft 136 5 = some (3, .invokevirtual 181) := by decide +kernel
theorem f_136_8 : zft 136 8 = some (3, .ifCond .ne 6) := by decide +kernel
theorem f_136_11 : zft 136 11 = some (2, .bipush (-101)) := by decide +kernel
theorem f_136_13 : zft 136 13 = some (1, .ireturn) := by decide +kernel
theorem f_136_14 : zft 136 14 = some (1, .aload_n 0) := by decide +kernel
theorem f_136_15 : zft 136 15 = some (3, .getfield 57) := by decide +kernel
theorem f_136_18 : zft 136 18 = some (1, .aload_n 0) := by decide +kernel
theorem f_136_19 : zft 136 19 = some (3, .getfield 12) := by decide +kernel
theorem f_136_22 : zft 136 22 = some (3, .invokevirtual 281) := by decide +kernel
theorem f_136_25 : zft 136 25 = some (1, .aload_n 0) := by decide +kernel
theorem f_136_26 : zft 136 26 = some (3, .getfield 57) := by decide +kernel
theorem f_136_29 : zft 136 29 = some (1, .iload_n 1) := by decide +kernel
theorem f_136_30 : zft 136 30 = some (3, .invokevirtual 284) := by decide +kernel
theorem f_136_33 : zft 136 33 = some (1, .istore_n 2) := by decide +kernel
theorem f_136_34 : zft 136 34 = some (1, .iload_n 2) := by decide +kernel
theorem f_136_35 : zft 136 35 = some (1, .iconst (-1)) := by decide +kernel
theorem f_136_36 : zft 136 36 = some (3, .if_icmp .ne 8) := by decide +kernel
theorem f_136_39 : zft 136 39 = some (2, .bipush (-104)) := by decide +kernel
theorem f_136_41 : zft 136 41 = some (3, .goto 4) := by decide +kernel
theorem f_136_44 : zft 136 44 = some (1, .iload_n 2) := by decide +kernel
theorem f_136_45 : zft 136 45 = some (1, .ireturn) := by decide +kernel
theorem f_137_0 : zft 137 0 = some (1, .aload_n 0) := by decide +kernel
theorem f_137_1 : zft 137 1 = some (3, .getfield 12) := by decide +kernel
theorem f_137_4 : zft 137 4 = some (1, .iload_n 1) := by decide +kernel
theorem f_137_5 : zft 137 5 = some (3, .invokevirtual 181) := by decide +kernel
theorem f_137_8 : zft 137 8 = some (3, .ifCond .ne 6) := by decide +kernel
theorem f_137_11 : zft 137 11 = some (2, .bipush (-101)) := by decide +kernel
theorem f_137_13 : zft 137 13 = some (1, .ireturn) := by decide +kernel
theorem f_137_14 : zft 137 14 = some (1, .aload_n 0) := by decide +kernel
theorem f_137_15 : zft 137 15 = some (3, .getfield 57) := by decide +kernel
theorem f_137_18 : zft 137 18 = some (1, .aload_n 0) := by decide +kernel
theorem f_137_19 : zft 137 19 = some (3, .getfield 12) := by decide +kernel
theorem f_137_22 : zft 137 22 = some (3, .invokevirtual 281) := by decide +kernel
theorem f_137_25 : zft 137 25 = some (1, .aload_n 0) := by decide +kernel
theorem f_137_26 : zft 137 26 = some (3, .getfield 57) := by decide +kernel
theorem f_137_29 : zft 137 29 = some (1, .iload_n 1) := by decide +kernel
theorem f_137_30 : zft 137 30 = some (3, .invokevirtual 284) := by decide +kernel
theorem f_137_33 : zft 137 33 = some (1, .istore_n 3) := by decide +kernel
theorem f_137_34 : zft 137 34 = some (1, .iload_n 3) := by decide +kernel
theorem f_137_35 : zft 137 35 = some (1, .iconst (-1)) := by decide +kernel
theorem f_137_36 : zft 137 36 = some (3, .if_icmp .ne 6) := by decide +kernel
theorem f_137_39 : zft 137 39 = some (2, .bipush (-104)) := by decide +kernel
theorem f_137_41 : zft 137 41 = some (1, .ireturn) := by decide +kernel
theorem f_137_42 : zft 137 42 = some (1, .iload_n 2) := by decide +kernel
theorem f_137_43 : zft 137 43 = some (3, .ifCond .lt 8) := by decide +kernel
theorem f_137_46 : zft 137 46 = some (1, .iload_n 2) := by decide +kernel
theorem f_137_47 : zft 137 47 = some (1, .iload_n 3) := by decide +kernel
theorem f_137_48 : zft 137 48 = some (3, .if_icmp .le 8) := by decide +kernel
theorem f_137_51 : zft 137 51 = some (2, .bipush (-102)) := by decide +kernel
theorem f_137_53 : zft 137 53 = some (3, .goto 12) := by decide +kernel
theorem f_137_56 : zft 137 56 = some (1, .aload_n 0) := by decide +kernel
theorem f_137_57 : zft 137 57 = some (3, .getfield 57) := by decide +kernel
theorem f_137_60 : zft 137 60 = some (1, .iload_n 1) := by decide +kernel
theorem f_137_61 : zft 137 61 = some (1, .iload_n 2) := by decide +kernel
theorem f_137_62 : zft 137 62 = some (3, .invokevirtual 287) := by decide +kernel
theorem f_137_65 : zft 137 65 = some (1, .ireturn) := by decide +kernel
theorem f_138_0 : zft 138 0 = some (1, .aload_n 0) := by decide +kernel
theorem f_138_1 : zft 138 1 = some (3, .getfield 12) := by decide +kernel
theorem f_138_4 : zft 138 4 = some (3, .getfield 110) := by decide +kernel
theorem f_138_7 : zft 138 7 = some (3, .ifCond .ne 6) := by decide +kernel
theorem f_138_10 : zft 138 10 = some (2, .bipush (-104)) := by decide +kernel
theorem f_138_12 : zft 138 12 = some (1, .ireturn) := by decide +kernel
theorem f_138_13 : zft 138 13 = some (1, .aload_n 0) := by decide +kernel
theorem f_138_14 : zft 138 14 = some (3, .getfield 57) := by decide +kernel
theorem f_138_17 : zft 138 17 = some (1, .aload_n 0) := by decide +kernel
theorem f_138_18 : zft 138 18 = some (3, .getfield 12) := by decide +kernel
theorem f_138_21 : zft 138 21 = some (3, .invokevirtual 281) := by decide +kernel
theorem f_138_24 : zft 138 24 = some (1, .iconst 0) := by decide +kernel
theorem f_138_25 : zft 138 25 = some (1, .istore_n 1) := by decide +kernel
theorem f_138_26 : zft 138 26 = some (1, .iconst 0) := by decide +kernel
theorem f_138_27 : zft 138 27 = some (1, .istore_n 2) := by decide +kernel
theorem f_138_28 : zft 138 28 = some (1, .iload_n 2) := by decide +kernel
theorem f_138_29 : zft 138 29 = some (1, .aload_n 0) := by decide +kernel
theorem f_138_30 : zft 138 30 = some (3, .getfield 12) := by decide +kernel
theorem f_138_33 : zft 138 33 = some (3, .getfield 110) := by decide +kernel
theorem f_138_36 : zft 138 36 = some (3, .if_icmp .ge 22) := by decide +kernel
theorem f_138_39 : zft 138 39 = some (1, .iload_n 1) := by decide +kernel
theorem f_138_40 : zft 138 40 = some (1, .aload_n 0) := by decide +kernel
theorem f_138_41 : zft 138 41 = some (3, .getfield 57) := by decide +kernel
theorem f_138_44 : zft 138 44 = some (1, .iload_n 2) := by decide +kernel
theorem f_138_45 : zft 138 45 = some (3, .invokevirtual 284) := by decide +kernel
theorem f_138_48 : zft 138 48 = some (3, .invokestatic 290) := by decide +kernel
theorem f_138_51 : zft 138 51 = some (1, .istore_n 1) := by decide +kernel
theorem f_138_52 : zft 138 52 = some (3, .iinc 2 1) := by decide +kernel
theorem f_138_55 : zft 138 55 = some (3, .goto (-27)) := by decide +kernel
theorem f_138_58 : zft 138 58 = some (1, .iload_n 1) := by decide +kernel
theorem f_138_59 : zft 138 59 = some (1, .ireturn) := by decide +kernel
theorem f_139_0 : zft 139 0 = some (1, .aload_n 0) := by decide +kernel
theorem f_139_1 : zft 139 1 = some (3, .getfield 50) := by decide +kernel
theorem f_139_4 : zft 139 4 = some (1, .aload_n 0) := by decide +kernel
theorem f_139_5 : zft 139 5 = some (3, .getfield 12) := by decide +kernel
theorem f_139_8 : zft 139 8 = some (3, .invokevirtual 249) := by decide +kernel
theorem f_139_11 : zft 139 11 = some (1, .iload_n 1) := by decide +kernel
theorem f_139_12 : zft 139 12 = some (1, .iconst 1) := by decide +kernel
theorem f_139_13 : zft 139 13 = some (3, .if_icmp .lt 14) := by decide +kernel
theorem f_139_16 : zft 139 16 = some (1, .aload_n 0) := by decide +kernel
theorem f_139_17 : zft 139 17 = some (3, .getfield 50) := by decide +kernel
theorem f_139_20 : zft 139 20 = some (1, .iload_n 1) := by decide +kernel
theorem f_139_21 : zft 139 21 = some (3, .invokevirtual 261) := by decide +kernel
theorem f_139_24 : zft 139 24 = some (3, .ifCond .ne 6) := by decide +kernel
theorem f_139_27 : zft 139 27 = some (2, .bipush (-101)) := by decide +kernel
theorem f_139_29 : zft 139 29 = some (1, .ireturn) := by decide +kernel
theorem f_139_30 : zft 139 30 = some (1, .aload_n 0) := by decide +kernel
theorem f_139_31 : zft 139 31 = some (3, .getfield 50) := by decide +kernel
theorem f_139_34 : zft 139 34 = some (1, .iload_n 1) := by decide +kernel
theorem f_139_35 : zft 139 35 = some (3, .invokevirtual 295) := by decide +kernel
theorem f_139_38 : zft 139 38 = some (3, .sipush 1000) := by decide +kernel
theorem f_139_41 : zft 139 41 = some (1, .iadd) := by decide +kernel
theorem f_139_42 : zft 139 42 = some (1, .ireturn) := by decide +kernel
theorem f_140_0 : zft 140 0 = some (1, .aload_n 0) := by decide +kernel
theorem f_140_1 : zft 140 1 = some (3, .getfield 50) := by decide +kernel
theorem f_140_4 : zft 140 4 = some (1, .aload_n 0) := by decide +kernel
theorem f_140_5 : zft 140 5 = some (3, .getfield 12) := by decide +kernel
theorem f_140_8 : zft 140 8 = some (3, .invokevirtual 249) := by decide +kernel
theorem f_140_11 : zft 140 11 = some (1, .iconst 0) := by decide +kernel
theorem f_140_12 : zft 140 12 = some (1, .istore_n 1) := by decide +kernel
theorem f_140_13 : zft 140 13 = some (1, .iconst 1) := by decide +kernel
theorem f_140_14 : zft 140 14 = some (1, .istore_n 2) := by decide +kernel
theorem f_140_15 : zft 140 15 = some (1, .iload_n 2) := by decide +kernel
theorem f_140_16 : zft 140 16 = some (1, .aload_n 0) := by decide +kernel
theorem f_140_17 : zft 140 17 = some (3, .getfield 50) := by decide +kernel
theorem f_140_20 : zft 140 20 = some (3, .getfield 258) := by decide +kernel
theorem f_140_23 : zft 140 23 = some (3, .if_icmp .ge 23) := by decide +kernel
theorem f_140_26 : zft 140 26 = some (1, .aload_n 0) := by decide +kernel
theorem f_140_27 : zft 140 27 = some (3, .getfield 50) := by decide +kernel
theorem f_140_30 : zft 140 30 = some (1, .iload_n 2) := by decide +kernel
theorem f_140_31 : zft 140 31 = some (3, .invokevirtual 295) := by decide +kernel
theorem f_140_34 : zft 140 34 = some (3, .ifCond .ge 6) := by decide +kernel
theorem f_140_37 : zft 140 37 = some (3, .iinc 1 1) := by decide +kernel
theorem f_140_40 : zft 140 40 = some (3, .iinc 2 1) := by decide +kernel
theorem f_140_43 : zft 140 43 = some (3, .goto (-28)) := by decide +kernel
theorem f_140_46 : zft 140 46 = some (1, .iload_n 1) := by decide +kernel
theorem f_140_47 : zft 140 47 = some (1, .ireturn) := by decide +kernel
theorem f_141_0 : zft 141 0 = some (1, .aload_n 0) := by decide +kernel
theorem f_141_1 : zft 141 1 = some (3, .getfield 50) := by decide +kernel
theorem f_141_4 : zft 141 4 = some (1, .aload_n 0) := by decide +kernel
theorem f_141_5 : zft 141 5 = some (3, .getfield 12) := by decide +kernel
theorem f_141_8 : zft 141 8 = some (3, .invokevirtual 249) := by decide +kernel
theorem f_141_11 : zft 141 11 = some (1, .aload_n 0) := by decide +kernel
theorem f_141_12 : zft 141 12 = some (3, .getfield 50) := by decide +kernel
theorem f_141_15 : zft 141 15 = some (1, .aload_n 0) := by decide +kernel
theorem f_141_16 : zft 141 16 = some (3, .getfield 12) := by decide +kernel
theorem f_141_19 : zft 141 19 = some (3, .invokevirtual 298) := by decide +kernel
theorem f_141_22 : zft 141 22 = some (1, .ireturn) := by decide +kernel
theorem f_142_0 : zft 142 0 = some (1, .aload_n 0) := by decide +kernel
theorem f_142_1 : zft 142 1 = some (3, .getfield 12) := by decide +kernel
theorem f_142_4 : zft 142 4 = some (3, .getfield 110) := by decide +kernel
theorem f_142_7 : zft 142 7 = some (3, .ifCond .ne 7) := by decide +kernel
theorem f_142_10 : zft 142 10 = some (3, .ldc2_w 303) := by decide +kernel
theorem f_142_13 : zft 142 13 = some (1, .lreturn) := by decide +kernel
theorem f_142_14 : zft 142 14 = some (1, .aload_n 0) := by decide +kernel
theorem f_142_15 : zft 142 15 = some (3, .getfield 50) := by decide +kernel
theorem f_142_18 : zft 142 18 = some (1, .aload_n 0) := by decide +kernel
theorem f_142_19 : zft 142 19 = some (3, .getfield 12) := by decide +kernel
theorem f_142_22 : zft 142 22 = some (3, .invokevirtual 249) := by decide +kernel
theorem f_142_25 : zft 142 25 = some (1, .iconst 0) := by decide +kernel
theorem f_142_26 : zft 142 26 = some (1, .istore_n 1) := by decide +kernel
theorem f_142_27 : zft 142 27 = some (1, .iconst 0) := by decide +kernel
theorem f_142_28 : zft 142 28 = some (1, .istore_n 2) := by decide +kernel
theorem f_142_29 : zft 142 29 = some (1, .iload_n 2) := by decide +kernel
theorem f_142_30 : zft 142 30 = some (1, .aload_n 0) := by decide +kernel
theorem f_142_31 : zft 142 31 = some (3, .getfield 12) := by decide +kernel
theorem f_142_34 : zft 142 34 = some (3, .getfield 110) := by decide +kernel
theorem f_142_37 : zft 142 37 = some (3, .if_icmp .ge 21) := by decide +kernel
theorem f_142_40 : zft 142 40 = some (1, .iload_n 1) := by decide +kernel
theorem f_142_41 : zft 142 41 = some (1, .aload_n 0) := by decide +kernel
theorem f_142_42 : zft 142 42 = some (3, .getfield 50) := by decide +kernel
theorem f_142_45 : zft 142 45 = some (3, .getfield 255) := by decide +kernel
theorem f_142_48 : zft 142 48 = some (1, .iload_n 2) := by decide +kernel
theorem f_142_49 : zft 142 49 = some (1, .iaload) := by decide +kernel
theorem f_142_50 : zft 142 50 = some (1, .iadd) := by decide +kernel
theorem f_142_51 : zft 142 51 = some (1, .istore_n 1) := by decide +kernel
theorem f_142_52 : zft 142 52 = some (3, .iinc 2 1) := by decide +kernel
theorem f_142_55 : zft 142 55 = some (3, .goto (-26)) := by decide +kernel
theorem f_142_58 : zft 142 58 = some (1, .iload_n 1) := by decide +kernel
theorem f_142_59 : zft 142 59 = some (1, .i2d) := by decide +kernel
theorem f_142_60 : zft 142 60 = some (1, .aload_n 0) := by decide +kernel
theorem f_142_61 : zft 142 61 = some (3, .getfield 12) := by decide +kernel
theorem f_142_64 : zft 142 64 = some (3, .getfield 110) := by decide +kernel
theorem f_142_67 : zft 142 67 = some (1, .i2d) := by decide +kernel
theorem f_142_68 : zft 142 68 = some (1, .ddiv) := by decide +kernel
theorem f_142_69 : zft 142 69 = some (3, .invokestatic 305) := by decide +kernel
theorem f_142_72 : zft 142 72 = some (1, .lreturn) := by decide +kernel
theorem f_143_0 : zft 143 0 = some (1, .aload_n 0) := by decide +kernel
theorem f_143_1 : zft 143 1 = some (3, .getfield 16) := by decide +kernel
theorem f_143_4 : zft 143 4 = some (1, .aload_n 0) := by decide +kernel
theorem f_143_5 : zft 143 5 = some (3, .getfield 12) := by decide +kernel
theorem f_143_8 : zft 143 8 = some (3, .invokevirtual 309) := by decide +kernel
theorem f_143_11 : zft 143 11 = some (1, .aload_n 0) := by decide +kernel
theorem f_143_12 : zft 143 12 = some (1, .iconst 1) := by decide +kernel
theorem f_143_13 : zft 143 13 = some (3, .putfield 68) := by decide +kernel
theorem f_143_16 : zft 143 16 = some (1, .aload_n 0) := by decide +kernel
theorem f_143_17 : zft 143 17 = some (3, .getfield 12) := by decide +kernel
theorem f_143_20 : zft 143 20 = some (3, .getfield 110) := by decide +kernel
theorem f_143_23 : zft 143 23 = some (1, .ireturn) := by decide +kernel
theorem f_144_0 : zft 144 0 = some (1, .aload_n 0) := by decide +kernel
theorem f_144_1 : zft 144 1 = some (3, .getfield 68) := by decide +kernel
theorem f_144_4 : zft 144 4 = some (3, .ifCond .ne 6) := by decide +kernel
theorem f_144_7 : zft 144 7 = some (2, .bipush (-105)) := by decide +kernel
theorem f_144_9 : zft 144 9 = some (1, .ireturn) := by decide +kernel
theorem f_144_10 : zft 144 10 = some (1, .aload_n 0) := by decide +kernel
theorem f_144_11 : zft 144 11 = some (3, .getfield 12) := by decide +kernel
theorem f_144_14 : zft 144 14 = some (1, .aload_n 0) := by decide +kernel
theorem f_144_15 : zft 144 15 = some (3, .getfield 16) := by decide +kernel
theorem f_144_18 : zft 144 18 = some (3, .invokevirtual 309) := by decide +kernel
theorem f_144_21 : zft 144 21 = some (1, .aload_n 0) := by decide +kernel
theorem f_144_22 : zft 144 22 = some (3, .getfield 22) := by decide +kernel
theorem f_144_25 : zft 144 25 = some (3, .invokevirtual 312) := by decide +kernel
theorem f_144_28 : zft 144 28 = some (1, .aload_n 0) := by decide +kernel
theorem f_144_29 : zft 144 29 = some (3, .getfield 12) := by decide +kernel
theorem f_144_32 : zft 144 32 = some (3, .getfield 110) := by decide +kernel
theorem f_144_35 : zft 144 35 = some (1, .ireturn) := by decide +kernel
theorem f_145_0 : zft 145 0 = some (1, .iload_n 1) := by decide +kernel
theorem f_145_1 : zft 145 1 = some (3, .ifCond .lt 10) := by decide +kernel
theorem f_145_4 : zft 145 4 = some (1, .aload_n 0) := by decide +kernel
theorem f_145_5 : zft 145 5 = some (3, .getfield 22) := by decide +kernel
theorem f_145_8 : zft 145 8 = some (3, .invokevirtual 315) := by decide +kernel
theorem f_145_11 : zft 145 11 = some (1, .iload_n 1) := by decide +kernel
theorem f_145_12 : zft 145 12 = some (1, .ireturn) := by decide +kernel
theorem f_146_0 : zft 146 0 = some (1, .iload_n 1) := by decide +kernel
theorem f_146_1 : zft 146 1 = some (3, .ifCond .ge 9) := by decide +kernel
theorem f_146_4 : zft 146 4 = some (1, .iload_n 1) := by decide +kernel
theorem f_146_5 : zft 146 5 = some (2, .bipush (-104)) := by decide +kernel
theorem f_146_7 : zft 146 7 = some (3, .if_icmp .ne 10) := by decide +kernel
theorem f_146_10 : zft 146 10 = some (1, .aload_n 0) := by decide +kernel
theorem f_146_11 : zft 146 11 = some (3, .getfield 22) := by decide +kernel
theorem f_146_14 : zft 146 14 = some (3, .invokevirtual 315) := by decide +kernel
theorem f_146_17 : zft 146 17 = some (1, .iload_n 1) := by decide +kernel
theorem f_146_18 : zft 146 18 = some (1, .ireturn) := by decide +kernel
theorem f_147_0 : zft 147 0 = some (1, .iload_n 0) := by decide +kernel
theorem f_147_1 : zft 147 1 = some (1, .iconst (-1)) := by decide +kernel
theorem f_147_2 : zft 147 2 = some (3, .if_icmp .ne 8) := by decide +kernel
theorem f_147_5 : zft 147 5 = some (2, .bipush (-104)) := by decide +kernel
theorem f_147_7 : zft 147 7 = some (3, .goto 4) := by decide +kernel
theorem f_147_10 : zft 147 10 = some (1, .iload_n 0) := by decide +kernel
theorem f_147_11 : zft 147 11 = some (1, .ireturn) := by decide +kernel
theorem f_148_0 : zft 148 0 = some (1, .iload_n 0) := by decide +kernel
theorem f_148_1 : zft 148 1 = some (1, .iconst (-1)) := by decide +kernel
theorem f_148_2 : zft 148 2 = some (3, .if_icmp .lt 13) := by decide +kernel
theorem f_148_5 : zft 148 5 = some (1, .iload_n 0) := by decide +kernel
theorem f_148_6 : zft 148 6 = some (2, .bipush 6) := by decide +kernel
theorem f_148_8 : zft 148 8 = some (3, .if_icmp .ge 7) := by decide +kernel
theorem f_148_11 : zft 148 11 = some (1, .iconst 1) := by decide +kernel
theorem f_148_12 : zft 148 12 = some (3, .goto 4) := by decide +kernel
theorem f_148_15 : zft 148 15 = some (1, .iconst 0) := by decide +kernel
theorem f_148_16 : zft 148 16 = some (1, .ireturn) := by decide +kernel
theorem f_149_0 : zft 149 0 = some (1, .iload_n 0) := by decide +kernel
theorem f_149_1 : zft 149 1 = some (1, .iload_n 1) := by decide +kernel
theorem f_149_2 : zft 149 2 = some (1, .ishr) := by decide +kernel
theorem f_149_3 : zft 149 3 = some (1, .iconst 1) := by decide +kernel
theorem f_149_4 : zft 149 4 = some (1, .iand) := by decide +kernel
theorem f_149_5 : zft 149 5 = some (3, .ifCond .eq 7) := by decide +kernel
theorem f_149_8 : zft 149 8 = some (1, .iconst 1) := by decide +kernel
theorem f_149_9 : zft 149 9 = some (3, .goto 4) := by decide +kernel
theorem f_149_12 : zft 149 12 = some (1, .iconst 0) := by decide +kernel
theorem f_149_13 : zft 149 13 = some (1, .ireturn) := by decide +kernel
theorem f_150_0 : zft 150 0 = some (1, .iload_n 0) := by decide +kernel
theorem f_150_1 : zft 150 1 = some (3, .ifCond .lt 19) := by decide +kernel
theorem f_150_4 : zft 150 4 = some (1, .iload_n 0) := by decide +kernel
theorem f_150_5 : zft 150 5 = some (2, .bipush 24) := by decide +kernel
theorem f_150_7 : zft 150 7 = some (3, .if_icmp .ge 13) := by decide +kernel
theorem f_150_10 : zft 150 10 = some (1, .iload_n 1) := by decide +kernel
theorem f_150_11 : zft 150 11 = some (3, .ifCond .lt 9) := by decide +kernel
theorem f_150_14 : zft 150 14 = some (1, .iload_n 1) := by decide +kernel
theorem f_150_15 : zft 150 15 = some (2, .bipush 16) := by decide +kernel
theorem f_150_17 : zft 150 17 = some (3, .if_icmp .lt 5) := by decide +kernel
theorem f_150_20 : zft 150 20 = some (1, .iconst (-1)) := by decide +kernel
theorem f_150_21 : zft 150 21 = some (1, .ireturn) := by decide +kernel
theorem f_150_22 : zft 150 22 = some (1, .iload_n 1) := by decide +kernel
theorem f_150_23 : zft 150 23 = some (2, .bipush 24) := by decide +kernel
theorem f_150_25 : zft 150 25 = some (1, .imul) := by decide +kernel
theorem f_150_26 : zft 150 26 = some (1, .iload_n 0) := by decide +kernel
theorem f_150_27 : zft 150 27 = some (1, .iadd) := by decide +kernel
theorem f_150_28 : zft 150 28 = some (1, .ireturn) := by decide +kernel
theorem f_151_0 : zft 151 0 = some (1, .dload_n 0) := by decide +kernel
theorem f_151_1 : zft 151 1 = some (1, .dconst 1) := by decide +kernel
theorem f_151_2 : zft 151 2 = some (1, .dcmp .g) := by decide +kernel
theorem f_151_3 : zft 151 3 = some (3, .ifCond .ge 5) := by decide +kernel
theorem f_151_6 : zft 151 6 = some (1, .lconst 0) := by decide +kernel
theorem f_151_7 : zft 151 7 = some (1, .lreturn) := by decide +kernel
theorem f_151_8 : zft 151 8 = some (1, .dload_n 0) := by decide +kernel
theorem f_151_9 : zft 151 9 = some (1, .dstore_n 2) := by decide +kernel
theorem f_151_10 : zft 151 10 = some (3, .ldc2_w 318) := by decide +kernel
theorem f_151_13 : zft 151 13 = some (2, .lstore 4) := by decide +kernel
theorem f_151_15 : zft 151 15 = some (1, .iconst 0) := by decide +kernel
theorem f_151_16 : zft 151 16 = some (2, .istore 6) := by decide +kernel
theorem f_151_18 : zft 151 18 = some (2, .iload 6) := by decide +kernel
theorem f_151_20 : zft 151 20 = some (3, .sipush 1023) := by decide +kernel
theorem f_151_23 : zft 151 23 = some (3, .if_icmp .ge 29) := by decide +kernel
theorem f_151_26 : zft 151 26 = some (1, .dload_n 2) := by decide +kernel
theorem f_151_27 : zft 151 27 = some (3, .ldc2_w 320) := by decide +kernel
theorem f_151_30 : zft 151 30 = some (1, .dcmp .l) := by decide +kernel
theorem f_151_31 : zft 151 31 = some (3, .ifCond .lt 21) := by decide +kernel
theorem f_151_34 : zft 151 34 = some (1, .dload_n 2) := by decide +kernel
theorem f_151_35 : zft 151 35 = some (3, .ldc2_w 320) := by decide +kernel
theorem f_151_38 : zft 151 38 = some (1, .ddiv) := by decide +kernel
theorem f_151_39 : zft 151 39 = some (1, .dstore_n 2) := by decide +kernel
theorem f_151_40 : zft 151 40 = some (2, .lload 4) := by decide +kernel
theorem f_151_42 : zft 151 42 = some (1, .lconst 1) := by decide +kernel
theorem f_151_43 : zft 151 43 = some (1, .ladd) := by decide +kernel
theorem f_151_44 : zft 151 44 = some (2, .lstore 4) := by decide +kernel
theorem f_151_46 : zft 151 46 = some (3, .iinc 6 1) := by decide +kernel
theorem f_151_49 : zft 151 49 = some (3, .goto (-31)) := by decide +kernel
theorem f_151_52 : zft 151 52 = some (2, .lload 4) := by decide +kernel
theorem f_151_54 : zft 151 54 = some (2, .bipush 52) := by decide +kernel
theorem f_151_56 : zft 151 56 = some (1, .lshl) := by decide +kernel
theorem f_151_57 : zft 151 57 = some (1, .dload_n 2) := by decide +kernel
theorem f_151_58 : zft 151 58 = some (1, .dconst 1) := by decide +kernel
theorem f_151_59 : zft 151 59 = some (1, .dsub) := by decide +kernel
theorem f_151_60 : zft 151 60 = some (3, .ldc2_w 322) := by decide +kernel
theorem f_151_63 : zft 151 63 = some (1, .dmul) := by decide +kernel
theorem f_151_64 : zft 151 64 = some (1, .d2l) := by decide +kernel
theorem f_151_65 : zft 151 65 = some (1, .lor) := by decide +kernel
theorem f_151_66 : zft 151 66 = some (1, .lreturn) := by decide +kernel
theorem f_152_0 : zft 152 0 = some (1, .aload_n 0) := by decide +kernel
theorem f_152_1 : zft 152 1 = some (3, .invokespecial 1) := by decide +kernel
theorem f_152_4 : zft 152 4 = some (1, .aload_n 0) := by decide +kernel
theorem f_152_5 : zft 152 5 = some (2, .bipush 124) := by decide +kernel
theorem f_152_7 : zft 152 7 = some (2, .newarray .int) := by decide +kernel
theorem f_152_9 : zft 152 9 = some (3, .putfield 7) := by decide +kernel
theorem f_152_12 : zft 152 12 = some (1, .aload_n 0) := by decide +kernel
theorem f_152_13 : zft 152 13 = some (3, .sipush 744) := by decide +kernel
theorem f_152_16 : zft 152 16 = some (2, .newarray .int) := by decide +kernel
theorem f_152_18 : zft 152 18 = some (3, .putfield 13) := by decide +kernel
theorem f_152_21 : zft 152 21 = some (1, .aload_n 0) := by decide +kernel
theorem f_152_22 : zft 152 22 = some (2, .bipush 124) := by decide +kernel
theorem f_152_24 : zft 152 24 = some (2, .newarray .int) := by decide +kernel
theorem f_152_26 : zft 152 26 = some (3, .putfield 16) := by decide +kernel
theorem f_152_29 : zft 152 29 = some (1, .aload_n 0) := by decide +kernel
theorem f_152_30 : zft 152 30 = some (2, .bipush 124) := by decide +kernel
theorem f_152_32 : zft 152 32 = some (2, .newarray .int) := by decide +kernel
theorem f_152_34 : zft 152 34 = some (3, .putfield 19) := by decide +kernel
theorem f_152_37 : zft 152 37 = some (1, .aload_n 0) := by decide +kernel
theorem f_152_38 : zft 152 38 = some (2, .bipush 80) := by decide +kernel
theorem f_152_40 : zft 152 40 = some (2, .newarray .int) := by decide +kernel
theorem f_152_42 : zft 152 42 = some (3, .putfield 22) := by decide +kernel
theorem f_152_45 : zft 152 45 = some (1, .aload_n 0) := by decide +kernel
theorem f_152_46 : zft 152 46 = some (2, .bipush 60) := by decide +kernel
theorem f_152_48 : zft 152 48 = some (2, .newarray .int) := by decide +kernel
theorem f_152_50 : zft 152 50 = some (3, .putfield 25) := by decide +kernel
theorem f_152_53 : zft 152 53 = some (1, .aload_n 0) := by decide +kernel
theorem f_152_54 : zft 152 54 = some (2, .bipush 12) := by decide +kernel
theorem f_152_56 : zft 152 56 = some (2, .newarray .int) := by decide +kernel
theorem f_152_58 : zft 152 58 = some (3, .putfield 28) := by decide +kernel
theorem f_152_61 : zft 152 61 = some (1, .aload_n 0) := by decide +kernel
theorem f_152_62 : zft 152 62 = some (2, .bipush 12) := by decide +kernel
theorem f_152_64 : zft 152 64 = some (2, .newarray .int) := by decide +kernel
theorem f_152_66 : zft 152 66 = some (3, .putfield 31) := by decide +kernel
theorem f_152_69 : zft 152 69 = some (1, .aload_n 0) := by decide +kernel
theorem f_152_70 : zft 152 70 = some (2, .bipush 12) := by decide +kernel
theorem f_152_72 : zft 152 72 = some (2, .newarray .boolean) := by decide +kernel
theorem f_152_74 : zft 152 74 = some (3, .putfield 34) := by decide +kernel
theorem f_152_77 : zft 152 77 = some (1, .aload_n 0) := by decide +kernel
theorem f_152_78 : zft 152 78 = some (2, .bipush 60) := by decide +kernel
theorem f_152_80 : zft 152 80 = some (2, .newarray .char) := by decide +kernel
theorem f_152_82 : zft 152 82 = some (3, .putfield 38) := by decide +kernel
theorem f_152_85 : zft 152 85 = some (1, .aload_n 0) := by decide +kernel
theorem f_152_86 : zft 152 86 = some (2, .bipush (-104)) := by decide +kernel
theorem f_152_88 : zft 152 88 = some (3, .putfield 42) := by decide +kernel
theorem f_152_91 : zft 152 91 = some (1, .aload_n 0) := by decide +kernel
theorem f_152_92 : zft 152 92 = some (1, .iconst 4) := by decide +kernel
theorem f_152_93 : zft 152 93 = some (2, .newarray .int) := by decide +kernel
theorem f_152_95 : zft 152 95 = some (3, .putfield 46) := by decide +kernel
theorem f_152_98 : zft 152 98 = some (1, .aload_n 0) := by decide +kernel
theorem f_152_99 : zft 152 99 = some (3, .sipush 384) := by decide +kernel
theorem f_152_102 : zft 152 102 = some (2, .newarray .int) := by decide +kernel
theorem f_152_104 : zft 152 104 = some (3, .putfield 49) := by decide +kernel
theorem f_152_107 : zft 152 107 = some (1, .aload_n 0) := by decide +kernel
theorem f_152_108 : zft 152 108 = some (3, .sipush 384) := by decide +kernel
theorem f_152_111 : zft 152 111 = some (2, .newarray .boolean) := by decide +kernel
theorem f_152_113 : zft 152 113 = some (3, .putfield 52) := by decide +kernel
theorem f_152_116 : zft 152 116 = some (1, .aload_n 0) := by decide +kernel
theorem f_152_117 : zft 152 117 = some (3, .sipush 768) := by decide +kernel
theorem f_152_120 : zft 152 120 = some (2, .newarray .int) := by decide +kernel
theorem f_152_122 : zft 152 122 = some (3, .putfield 55) := by decide +kernel
theorem f_152_125 : zft 152 125 = some (1, .return_) := by decide +kernel
theorem f_153_0 : zft 153 0 = some (1, .iload_n 0) := by decide +kernel
theorem f_153_1 : zft 153 1 = some (1, .iload_n 1) := by decide +kernel
theorem f_153_2 : zft 153 2 = some (3, .if_icmp .lt 12) := by decide +kernel
theorem f_153_5 : zft 153 5 = some (1, .iload_n 0) := by decide +kernel
theorem f_153_6 : zft 153 6 = some (1, .iload_n 2) := by decide +kernel
theorem f_153_7 : zft 153 7 = some (3, .if_icmp .gt 7) := by decide +kernel
theorem f_153_10 : zft 153 10 = some (1, .iconst 1) := by decide +kernel
theorem f_153_11 : zft 153 11 = some (3, .goto 4) := by decide +kernel
theorem f_153_14 : zft 153 14 = some (1, .iconst 0) := by decide +kernel
theorem f_153_15 : zft 153 15 = some (1, .ireturn) := by decide +kernel
theorem f_154_0 : zft 154 0 = some (1, .iload_n 1) := by decide +kernel
theorem f_154_1 : zft 154 1 = some (1, .iconst 0) := by decide +kernel
theorem f_154_2 : zft 154 2 = some (1, .aload_n 0) := by decide +kernel
theorem f_154_3 : zft 154 3 = some (3, .getfield 7) := by decide +kernel
theorem f_154_6 : zft 154 6 = some (2, .bipush 120) := by decide +kernel
theorem f_154_8 : zft 154 8 = some (1, .iaload) := by decide +kernel
theorem f_154_9 : zft 154 9 = some (1, .iconst 1) := by decide +kernel
theorem f_154_10 : zft 154 10 = some (1, .isub) := by decide +kernel
theorem f_154_11 : zft 154 11 = some (3, .invokestatic 58) := by decide +kernel
theorem f_154_14 : zft 154 14 = some (1, .ireturn) := by decide +kernel
theorem f_155_0 : zft 155 0 = some (1, .iload_n 1) := by decide +kernel
theorem f_155_1 : zft 155 1 = some (1, .iconst 0) := by decide +kernel
theorem f_155_2 : zft 155 2 = some (1, .aload_n 0) := by decide +kernel
theorem f_155_3 : zft 155 3 = some (3, .getfield 7) := by decide +kernel
theorem f_155_6 : zft 155 6 = some (2, .bipush 121) := by decide +kernel
theorem f_155_8 : zft 155 8 = some (1, .iaload) := by decide +kernel
theorem f_155_9 : zft 155 9 = some (1, .iconst 1) := by decide +kernel
theorem f_155_10 : zft 155 10 = some (1, .isub) := by decide +kernel
theorem f_155_11 : zft 155 11 = some (3, .invokestatic 58) := by decide +kernel
theorem f_155_14 : zft 155 14 = some (1, .ireturn) := by decide +kernel
theorem f_156_0 : zft 156 0 = some (1, .aload_n 0) := by decide +kernel
theorem f_156_1 : zft 156 1 = some (3, .getfield 7) := by decide +kernel
theorem f_156_4 : zft 156 4 = some (1, .iconst 0) := by decide +kernel
theorem f_156_5 : zft 156 5 = some (1, .iconst 5) := by decide +kernel
theorem f_156_6 : zft 156 6 = some (1, .iload_n 1) := by decide +kernel
theorem f_156_7 : zft 156 7 = some (1, .imul) := by decide +kernel
theorem f_156_8 : zft 156 8 = some (1, .iadd) := by decide +kernel
theorem f_156_9 : zft 156 9 = some (1, .iload_n 2) := by decide +kernel
theorem f_156_10 : zft 156 10 = some (1, .iadd) := by decide +kernel
theorem f_156_11 : zft 156 11 = some (1, .iaload) := by decide +kernel
theorem f_156_12 : zft 156 12 = some (1, .ireturn) := by decide +kernel
theorem f_157_0 : zft 157 0 = some (1, .aload_n 0) := by decide +kernel
theorem f_157_1 : zft 157 1 = some (3, .getfield 7) := by decide +kernel
theorem f_157_4 : zft 157 4 = some (2, .bipush 60) := by decide +kernel
theorem f_157_6 : zft 157 6 = some (1, .iconst 3) := by decide +kernel
theorem f_157_7 : zft 157 7 = some (1, .iload_n 1) := by decide +kernel
theorem f_157_8 : zft 157 8 = some (1, .imul) := by decide +kernel
theorem f_157_9 : zft 157 9 = some (1, .iadd) := by decide +kernel
theorem f_157_10 : zft 157 10 = some (1, .iload_n 2) := by decide +kernel
theorem f_157_11 : zft 157 11 = some (1, .iadd) := by decide +kernel
theorem f_157_12 : zft 157 12 = some (1, .iaload) := by decide +kernel
theorem f_157_13 : zft 157 13 = some (1, .ireturn) := by decide +kernel
theorem f_158_0 : zft 158 0 = some (1, .aload_n 0) := by decide +kernel
theorem f_158_1 : zft 158 1 = some (1, .iload_n 1) := by decide +kernel
theorem f_158_2 : zft 158 2 = some (1, .iconst 0) := by decide +kernel
theorem f_158_3 : zft 158 3 = some (3, .invokevirtual 62) := by decide +kernel
theorem f_158_6 : zft 158 6 = some (1, .aload_n 0) := by decide +kernel
theorem f_158_7 : zft 158 7 = some (1, .iload_n 1) := by decide +kernel
theorem f_158_8 : zft 158 8 = some (1, .iconst 2) := by decide +kernel
theorem f_158_9 : zft 158 9 = some (3, .invokevirtual 62) := by decide +kernel
theorem f_158_12 : zft 158 12 = some (1, .iconst 2) := by decide +kernel
theorem f_158_13 : zft 158 13 = some (1, .idiv) := by decide +kernel
theorem f_158_14 : zft 158 14 = some (1, .iadd) := by decide +kernel
theorem f_158_15 : zft 158 15 = some (1, .ireturn) := by decide +kernel
theorem f_159_0 : zft 159 0 = some (1, .aload_n 0) := by decide +kernel
theorem f_159_1 : zft 159 1 = some (1, .iload_n 1) := by decide +kernel
theorem f_159_2 : zft 159 2 = some (1, .iconst 1) := by decide +kernel
theorem f_159_3 : zft 159 3 = some (3, .invokevirtual 62) := by decide +kernel
theorem f_159_6 : zft 159 6 = some (1, .aload_n 0) := by decide +kernel
theorem f_159_7 : zft 159 7 = some (1, .iload_n 1) := by decide +kernel
theorem f_159_8 : zft 159 8 = some (1, .iconst 3) := by decide +kernel
theorem f_159_9 : zft 159 9 = some (3, .invokevirtual 62) := by decide +kernel
theorem f_159_12 : zft 159 12 = some (1, .iconst 2) := by decide +kernel
theorem f_159_13 : zft 159 13 = some (1, .idiv) := by decide +kernel
theorem f_159_14 : zft 159 14 = some (1, .iadd) := by decide +kernel
theorem f_159_15 : zft 159 15 = some (1, .ireturn) := by decide +kernel
theorem f_160_0 : zft 160 0 = some (1, .iload_n 0) := by decide +kernel
theorem f_160_1 : zft 160 1 = some (1, .iload_n 1) := by decide +kernel
theorem f_160_2 : zft 160 2 = some (3, .if_icmp .ge 9) := by decide +kernel
theorem f_160_5 : zft 160 5 = some (1, .iload_n 1) := by decide +kernel
theorem f_160_6 : zft 160 6 = some (1, .iload_n 0) := by decide +kernel
theorem f_160_7 : zft 160 7 = some (1, .isub) := by decide +kernel
theorem f_160_8 : zft 160 8 = some (3, .goto 6) := by decide +kernel
theorem f_160_11 : zft 160 11 = some (1, .iload_n 0) := by decide +kernel
theorem f_160_12 : zft 160 12 = some (1, .iload_n 1) := by decide +kernel
theorem f_160_13 : zft 160 13 = some (1, .isub) := by decide +kernel
theorem f_160_14 : zft 160 14 = some (1, .ireturn) := by decide +kernel
theorem f_161_0 : zft 161 0 = some (1, .aload_n 0) := by decide +kernel
theorem f_161_1 : zft 161 1 = some (1, .iload_n 1) := by decide +kernel
theorem f_161_2 : zft 161 2 = some (3, .invokevirtual 66) := by decide +kernel
theorem f_161_5 : zft 161 5 = some (1, .aload_n 0) := by decide +kernel
theorem f_161_6 : zft 161 6 = some (1, .iload_n 2) := by decide +kernel
theorem f_161_7 : zft 161 7 = some (3, .invokevirtual 66) := by decide +kernel
theorem f_161_10 : zft 161 10 = some (3, .invokestatic 70) := by decide +kernel
theorem f_161_13 : zft 161 13 = some (1, .aload_n 0) := by decide +kernel
theorem f_161_14 : zft 161 14 = some (1, .iload_n 1) := by decide +kernel
theorem f_161_15 : zft 161 15 = some (3, .invokevirtual 73) := by decide +kernel
theorem f_161_18 : zft 161 18 = some (1, .aload_n 0) := by decide +kernel
theorem f_161_19 : zft 161 19 = some (1, .iload_n 2) := by decide +kernel
theorem f_161_20 : zft 161 20 = some (3, .invokevirtual 73) := by decide +kernel
theorem f_161_23 : zft 161 23 = some (3, .invokestatic 70) := by decide +kernel
theorem f_161_26 : zft 161 26 = some (1, .iadd) := by decide +kernel
theorem f_161_27 : zft 161 27 = some (1, .ireturn) := by decide +kernel
theorem f_162_0 : zft 162 0 = some (1, .iconst 0) := by decide +kernel
theorem f_162_1 : zft 162 1 = some (1, .istore_n 1) := by decide +kernel
theorem f_162_2 : zft 162 2 = some (1, .iload_n 1) := by decide +kernel
theorem f_162_3 : zft 162 3 = some (2, .bipush 124) := by decide +kernel
theorem f_162_5 : zft 162 5 = some (3, .if_icmp .ge 21) := by decide +kernel
theorem f_162_8 : zft 162 8 = some (1, .aload_n 0) := by decide +kernel
theorem f_162_9 : zft 162 9 = some (3, .getfield 19) := by decide +kernel
theorem f_162_12 : zft 162 12 = some (1, .iload_n 1) := by decide +kernel
theorem f_162_13 : zft 162 13 = some (1, .aload_n 0) := by decide +kernel
theorem f_162_14 : zft 162 14 = some (3, .getfield 7) := by decide +kernel
theorem f_162_17 : zft 162 17 = some (1, .iload_n 1) := by decide +kernel
theorem f_162_18 : zft 162 18 = some (1, .iaload) := by decide +kernel
theorem f_162_19 : zft 162 19 = some (1, .iastore) := by decide +kernel
theorem f_162_20 : zft 162 20 = some (3, .iinc 1 1) := by decide +kernel
theorem f_162_23 : zft 162 23 = some (3, .goto (-21)) := by decide +kernel
theorem f_162_26 : zft 162 26 = some (1, .return_) := by decide +kernel
theorem f_163_0 : zft 163 0 = some (1, .aload_n 0) := by decide +kernel
theorem f_163_1 : zft 163 1 = some (3, .getfield 76) := by decide +kernel
theorem f_163_4 : zft 163 4 = some (2, .bipush 6) := by decide +kernel
theorem f_163_6 : zft 163 6 = some (3, .if_icmp .ne 43) := by decide +kernel
theorem f_163_9 : zft 163 9 = some (1, .iconst 0) := by decide +kernel
theorem f_163_10 : zft 163 10 = some (1, .istore_n 1) := by decide +kernel
theorem f_163_11 : zft 163 11 = some (1, .iload_n 1) := by decide +kernel
theorem f_163_12 : zft 163 12 = some (3, .sipush 620) := by decide +kernel
theorem f_163_15 : zft 163 15 = some (3, .if_icmp .ge 24) := by decide +kernel
theorem f_163_18 : zft 163 18 = some (1, .aload_n 0) := by decide +kernel
theorem f_163_19 : zft 163 19 = some (3, .getfield 13) := by decide +kernel
theorem f_163_22 : zft 163 22 = some (1, .iload_n 1) := by decide +kernel
theorem f_163_23 : zft 163 23 = some (1, .aload_n 0) := by decide +kernel
theorem f_163_24 : zft 163 24 = some (3, .getfield 13) := by decide +kernel
theorem f_163_27 : zft 163 27 = some (1, .iload_n 1) := by decide +kernel
theorem f_163_28 : zft 163 28 = some (2, .bipush 124) := by decide +kernel
theorem f_163_30 : zft 163 30 = some (1, .iadd) := by decide +kernel
theorem f_163_31 : zft 163 31 = some (1, .iaload) := by decide +kernel
theorem f_163_32 : zft 163 32 = some (1, .iastore) := by decide +kernel
theorem f_163_33 : zft 163 33 = some (3, .iinc 1 1) := by decide +kernel
theorem f_163_36 : zft 163 36 = some (3, .goto (-25)) := by decide +kernel
theorem f_163_39 : zft 163 39 = some (1, .aload_n 0) := by decide +kernel
theorem f_163_40 : zft 163 40 = some (1, .dup) := by decide +kernel
theorem f_163_41 : zft 163 41 = some (3, .getfield 76) := by decide +kernel
theorem f_163_44 : zft 163 44 = some (1, .iconst 1) := by decide +kernel
theorem f_163_45 : zft 163 45 = some (1, .isub) := by decide +kernel
theorem f_163_46 : zft 163 46 = some (3, .putfield 76) := by decide +kernel
theorem f_163_49 : zft 163 49 = some (1, .iconst 0) := by decide +kernel
theorem f_163_50 : zft 163 50 = some (1, .istore_n 1) := by decide +kernel
theorem f_163_51 : zft 163 51 = some (1, .iload_n 1) := by decide +kernel
theorem f_163_52 : zft 163 52 = some (2, .bipush 124) := by decide +kernel
theorem f_163_54 : zft 163 54 = some (3, .if_icmp .ge 29) := by decide +kernel
theorem f_163_57 : zft 163 57 = some (1, .aload_n 0) := by decide +kernel
theorem f_163_58 : zft 163 58 = some (3, .getfield 13) := by decide +kernel
theorem f_163_61 : zft 163 61 = some (2, .bipush 124) := by decide +kernel
theorem f_163_63 : zft 163 63 = some (1, .aload_n 0) := by decide +kernel
theorem f_163_64 : zft 163 64 = some (3, .getfield 76) := by decide +kernel
theorem f_163_67 : zft 163 67 = some (1, .imul) := by decide +kernel
theorem f_163_68 : zft 163 68 = some (1, .iload_n 1) := by decide +kernel
theorem f_163_69 : zft 163 69 = some (1, .iadd) := by decide +kernel
theorem f_163_70 : zft 163 70 = some (1, .aload_n 0) := by decide +kernel
theorem f_163_71 : zft 163 71 = some (3, .getfield 19) := by decide +kernel
theorem f_163_74 : zft 163 74 = some (1, .iload_n 1) := by decide +kernel
theorem f_163_75 : zft 163 75 = some (1, .iaload) := by decide +kernel
theorem f_163_76 : zft 163 76 = some (1, .iastore) := by decide +kernel
theorem f_163_77 : zft 163 77 = some (3, .iinc 1 1) := by decide +kernel
theorem f_163_80 : zft 163 80 = some (3, .goto (-29)) := by decide +kernel
theorem f_163_83 : zft 163 83 = some (1, .aload_n 0) := by decide +kernel
theorem f_163_84 : zft 163 84 = some (1, .dup) := by decide +kernel
theorem f_163_85 : zft 163 85 = some (3, .getfield 76) := by decide +kernel
theorem f_163_88 : zft 163 88 = some (1, .iconst 1) := by decide +kernel
theorem f_163_89 : zft 163 89 = some (1, .iadd) := by decide +kernel
theorem f_163_90 : zft 163 90 = some (3, .putfield 76) := by decide +kernel
theorem f_163_93 : zft 163 93 = some (1, .return_) := by decide +kernel
theorem f_164_0 : zft 164 0 = some (1, .iload_n 1) := by decide +kernel
theorem f_164_1 : zft 164 1 = some (3, .ifCond .ge 9) := by decide +kernel
theorem f_164_4 : zft 164 4 = some (1, .iload_n 1) := by decide +kernel
theorem f_164_5 : zft 164 5 = some (2, .bipush (-104)) := by decide +kernel
theorem f_164_7 : zft 164 7 = some (3, .if_icmp .ne 7) := by decide +kernel
theorem f_164_10 : zft 164 10 = some (1, .aload_n 0) := by decide +kernel
theorem f_164_11 : zft 164 11 = some (3, .invokevirtual 79) := by decide +kernel
theorem f_164_14 : zft 164 14 = some (1, .iload_n 1) := by decide +kernel
theorem f_164_15 : zft 164 15 = some (1, .ireturn) := by decide +kernel
theorem f_165_0 : zft 165 0 = some (1, .iconst 0) := by decide +kernel
theorem f_165_1 : zft 165 1 = some (1, .istore_n 3) := by decide +kernel
theorem f_165_2 : zft 165 2 = some (1, .iload_n 3) := by decide +kernel
theorem f_165_3 : zft 165 3 = some (1, .aload_n 0) := by decide +kernel
theorem f_165_4 : zft 165 4 = some (3, .getfield 7) := by decide +kernel
theorem f_165_7 : zft 165 7 = some (2, .bipush 120) := by decide +kernel
theorem f_165_9 : zft 165 9 = some (1, .iaload) := by decide +kernel
theorem f_165_10 : zft 165 10 = some (3, .if_icmp .ge 57) := by decide +kernel
theorem f_165_13 : zft 165 13 = some (1, .iload_n 1) := by decide +kernel
theorem f_165_14 : zft 165 14 = some (1, .aload_n 0) := by decide +kernel
theorem f_165_15 : zft 165 15 = some (1, .iload_n 3) := by decide +kernel
theorem f_165_16 : zft 165 16 = some (1, .iconst 0) := by decide +kernel
theorem f_165_17 : zft 165 17 = some (3, .invokevirtual 62) := by decide +kernel
theorem f_165_20 : zft 165 20 = some (1, .isub) := by decide +kernel
theorem f_165_21 : zft 165 21 = some (1, .iconst 0) := by decide +kernel
theorem f_165_22 : zft 165 22 = some (1, .aload_n 0) := by decide +kernel
theorem f_165_23 : zft 165 23 = some (1, .iload_n 3) := by decide +kernel
theorem f_165_24 : zft 165 24 = some (1, .iconst 2) := by decide +kernel
theorem f_165_25 : zft 165 25 = some (3, .invokevirtual 62) := by decide +kernel
theorem f_165_28 : zft 165 28 = some (1, .iconst 1) := by decide +kernel
theorem f_165_29 : zft 165 29 = some (1, .isub) := by decide +kernel
theorem f_165_30 : zft 165 30 = some (3, .invokestatic 58) := by decide +kernel
theorem f_165_33 : zft 165 33 = some (3, .ifCond .eq 28) := by decide +kernel
theorem f_165_36 : zft 165 36 = some (1, .iload_n 2) := by decide +kernel
theorem f_165_37 : zft 165 37 = some (1, .aload_n 0) := by decide +kernel
theorem f_165_38 : zft 165 38 = some (1, .iload_n 3) := by decide +kernel
theorem f_165_39 : zft 165 39 = some (1, .iconst 1) := by decide +kernel
theorem f_165_40 : zft 165 40 = some (3, .invokevirtual 62) := by decide +kernel
theorem f_165_43 : zft 165 43 = some (1, .isub) := by decide +kernel
theorem f_165_44 : zft 165 44 = some (1, .iconst 0) := by decide +kernel
theorem f_165_45 : zft 165 45 = some (1, .aload_n 0) := by decide +kernel
theorem f_165_46 : zft 165 46 = some (1, .iload_n 3) := by decide +kernel
theorem f_165_47 : zft 165 47 = some (1, .iconst 3) := by decide +kernel
theorem f_165_48 : zft 165 48 = some (3, .invokevirtual 62) := by decide +kernel
theorem f_165_51 : zft 165 51 = some (1, .iconst 1) := by decide +kernel
theorem f_165_52 : zft 165 52 = some (1, .isub) := by decide +kernel
theorem f_165_53 : zft 165 53 = some (3, .invokestatic 58) := by decide +kernel
theorem f_165_56 : zft 165 56 = some (3, .ifCond .eq 5) := by decide +kernel
theorem f_165_59 : zft 165 59 = some (1, .iload_n 3) := by decide +kernel
theorem f_165_60 : zft 165 60 = some (1, .ireturn) := by decide +kernel
theorem f_165_61 : zft 165 61 = some (3, .iinc 3 1) := by decide +kernel
theorem f_165_64 : zft 165 64 = some (3, .goto (-62)) := by decide +kernel
theorem f_165_67 : zft 165 67 = some (1, .iconst (-1)) := by decide +kernel
theorem f_165_68 : zft 165 68 = some (1, .ireturn) := by decide +kernel
theorem f_166_0 : zft 166 0 = some (1, .iload_n 3) := by decide +kernel
theorem f_166_1 : zft 166 1 = some (1, .iconst 2) := by decide +kernel
theorem f_166_2 : zft 166 2 = some (2, .bipush 12) := by decide +kernel
theorem f_166_4 : zft 166 4 = some (3, .invokestatic 58) := by decide +kernel
theorem f_166_7 : zft 166 7 = some (3, .ifCond .eq 39) := by decide +kernel
theorem f_166_10 : zft 166 10 = some (2, .iload 4) := by decide +kernel
theorem f_166_12 : zft 166 12 = some (1, .iconst 2) := by decide +kernel
theorem f_166_13 : zft 166 13 = some (2, .bipush 12) := by decide +kernel
theorem f_166_15 : zft 166 15 = some (3, .invokestatic 58) := by decide +kernel
theorem f_166_18 : zft 166 18 = some (3, .ifCond .eq 28) := by decide +kernel
theorem f_166_21 : zft 166 21 = some (1, .iload_n 1) := by decide +kernel
theorem f_166_22 : zft 166 22 = some (1, .iconst 0) := by decide +kernel
theorem f_166_23 : zft 166 23 = some (2, .bipush 24) := by decide +kernel
theorem f_166_25 : zft 166 25 = some (1, .iload_n 3) := by decide +kernel
theorem f_166_26 : zft 166 26 = some (1, .isub) := by decide +kernel
theorem f_166_27 : zft 166 27 = some (3, .invokestatic 58) := by decide +kernel
theorem f_166_30 : zft 166 30 = some (3, .ifCond .eq 16) := by decide +kernel
theorem f_166_33 : zft 166 33 = some (1, .iload_n 2) := by decide +kernel
theorem f_166_34 : zft 166 34 = some (1, .iconst 0) := by decide +kernel
theorem f_166_35 : zft 166 35 = some (2, .bipush 16) := by decide +kernel
theorem f_166_37 : zft 166 37 = some (2, .iload 4) := by decide +kernel
theorem f_166_39 : zft 166 39 = some (1, .isub) := by decide +kernel
theorem f_166_40 : zft 166 40 = some (3, .invokestatic 58) := by decide +kernel
theorem f_166_43 : zft 166 43 = some (3, .ifCond .ne 6) := by decide +kernel
theorem f_166_46 : zft 166 46 = some (2, .bipush (-102)) := by decide +kernel
theorem f_166_48 : zft 166 48 = some (1, .ireturn) := by decide +kernel
theorem f_166_49 : zft 166 49 = some (1, .iload_n 1) := by decide +kernel
theorem f_166_50 : zft 166 50 = some (2, .istore 5) := by decide +kernel
theorem f_166_52 : zft 166 52 = some (2, .iload 5) := by decide +kernel
theorem f_166_54 : zft 166 54 = some (1, .iload_n 1) := by decide +kernel
theorem f_166_55 : zft 166 55 = some (1, .iload_n 3) := by decide +kernel
theorem f_166_56 : zft 166 56 = some (1, .iadd) := by decide +kernel
theorem f_166_57 : zft 166 57 = some (3, .if_icmp .ge 41) := by decide +kernel
theorem f_166_60 : zft 166 60 = some (1, .iload_n 2) := by decide +kernel
theorem f_166_61 : zft 166 61 = some (2, .istore 6) := by decide +kernel
theorem f_166_63 : zft 166 63 = some (2, .iload 6) := by decide +kernel
theorem f_166_65 : zft 166 65 = some (1, .iload_n 2) := by decide +kernel
theorem f_166_66 : zft 166 66 = some (2, .iload 4) := by decide +kernel
theorem f_166_68 : zft 166 68 = some (1, .iadd) := by decide +kernel
theorem f_166_69 : zft 166 69 = some (3, .if_icmp .ge 23) := by decide +kernel
theorem f_166_72 : zft 166 72 = some (1, .aload_n 0) := by decide +kernel
theorem f_166_73 : zft 166 73 = some (2, .iload 5) := by decide +kernel
theorem f_166_75 : zft 166 75 = some (2, .iload 6) := by decide +kernel
theorem f_166_77 : zft 166 77 = some (3, .invokevirtual 82) := by decide +kernel
theorem f_166_80 : zft 166 80 = some (3, .ifCond .lt 6) := by decide +kernel
theorem f_166_83 : zft 166 83 = some (2, .bipush (-106)) := by decide +kernel
theorem f_166_85 : zft 166 85 = some (1, .ireturn) := by decide +kernel
theorem f_166_86 : zft 166 86 = some (3, .iinc 6 1) := by decide +kernel
theorem f_166_89 : zft 166 89 = some (3, .goto (-26)) := by decide +kernel
theorem f_166_92 : zft 166 92 = some (3, .iinc 5 1) := by decide +kernel
theorem f_166_95 : zft 166 95 = some (3, .goto (-43)) := by decide +kernel
theorem f_166_98 : zft 166 98 = some (1, .aload_n 0) := by decide +kernel
theorem f_166_99 : zft 166 99 = some (3, .getfield 7) := by decide +kernel
theorem f_166_102 : zft 166 102 = some (2, .bipush 120) := by decide +kernel
theorem f_166_104 : zft 166 104 = some (1, .iaload) := by decide +kernel
theorem f_166_105 : zft 166 105 = some (2, .bipush 12) := by decide +kernel
theorem f_166_107 : zft 166 107 = some (3, .if_icmp .ne 6) := by decide +kernel
theorem f_166_110 : zft 166 110 = some (2, .bipush (-103)) := by decide +kernel
theorem f_166_112 : zft 166 112 = some (1, .ireturn) := by decide +kernel
theorem f_166_113 : zft 166 113 = some (1, .iconst 0) := by decide +kernel
theorem f_166_114 : zft 166 114 = some (1, .iconst 5) := by decide +kernel
theorem f_166_115 : zft 166 115 = some (1, .aload_n 0) := by decide +kernel
theorem f_166_116 : zft 166 116 = some (3, .getfield 7) := by decide +kernel
theorem f_166_119 : zft 166 119 = some (2, .bipush 120) := by decide +kernel
theorem f_166_121 : zft 166 121 = some (1, .iaload) := by decide +kernel
theorem f_166_122 : zft 166 122 = some (1, .imul) := by decide +kernel
theorem f_166_123 : zft 166 123 = some (1, .iadd) := by decide +kernel
theorem f_166_124 : zft 166 124 = some (2, .istore 5) := by decide +kernel
theorem f_166_126 : zft 166 126 = some (1, .aload_n 0) := by decide +kernel
theorem f_166_127 : zft 166 127 = some (3, .getfield 7) := by decide +kernel
theorem f_166_130 : zft 166 130 = some (2, .iload 5) := by decide +kernel
theorem f_166_132 : zft 166 132 = some (1, .iload_n 1) := by decide +kernel
theorem f_166_133 : zft 166 133 = some (1, .iastore) := by decide +kernel
theorem f_166_134 : zft 166 134 = some (1, .aload_n 0) := by decide +kernel
theorem f_166_135 : zft 166 135 = some (3, .getfield 7) := by decide +kernel
theorem f_166_138 : zft 166 138 = some (2, .iload 5) := by decide +kernel
theorem f_166_140 : zft 166 140 = some (1, .iconst 1) := by decide +kernel
theorem f_166_141 : zft 166 141 = some (1, .iadd) := by decide +kernel
theorem f_166_142 : zft 166 142 = some (1, .iload_n 2) := by decide +kernel
theorem f_166_143 : zft 166 143 = some (1, .iastore) := by decide +kernel
theorem f_166_144 : zft 166 144 = some (1, .aload_n 0) := by decide +kernel
theorem f_166_145 : zft 166 145 = some (3, .getfield 7) := by decide +kernel
theorem f_166_148 : zft 166 148 = some (2, .iload 5) := by decide +kernel
theorem f_166_150 : zft 166 150 = some (1, .iconst 2) := by decide +kernel
theorem f_166_151 : zft 166 151 = some (1, .iadd) := by decide +kernel
theorem f_166_152 : zft 166 152 = some (1, .iload_n 3) := by decide +kernel
theorem f_166_153 : zft 166 153 = some (1, .iastore) := by decide +kernel
theorem f_166_154 : zft 166 154 = some (1, .aload_n 0) := by decide +kernel
theorem f_166_155 : zft 166 155 = some (3, .getfield 7) := by decide +kernel
theorem f_166_158 : zft 166 158 = some (2, .iload 5) := by decide +kernel
theorem f_166_160 : zft 166 160 = some (1, .iconst 3) := by decide +kernel
theorem f_166_161 : zft 166 161 = some (1, .iadd) := by decide +kernel
theorem f_166_162 : zft 166 162 = some (2, .iload 4) := by decide +kernel
theorem f_166_164 : zft 166 164 = some (1, .iastore) := by decide +kernel
theorem f_166_165 : zft 166 165 = some (1, .aload_n 0) := by decide +kernel
theorem f_166_166 : zft 166 166 = some (3, .getfield 7) := by decide +kernel
theorem f_166_169 : zft 166 169 = some (2, .iload 5) := by decide +kernel
theorem f_166_171 : zft 166 171 = some (1, .iconst 4) := by decide +kernel
theorem f_166_172 : zft 166 172 = some (1, .iadd) := by decide +kernel
theorem f_166_173 : zft 166 173 = some (1, .iconst (-1)) := by decide +kernel
theorem f_166_174 : zft 166 174 = some (1, .iastore) := by decide +kernel
theorem f_166_175 : zft 166 175 = some (1, .aload_n 0) := by decide +kernel
theorem f_166_176 : zft 166 176 = some (3, .getfield 7) := by decide +kernel
theorem f_166_179 : zft 166 179 = some (2, .bipush 120) := by decide +kernel
theorem f_166_181 : zft 166 181 = some (1, .dup2) := by decide +kernel
theorem f_166_182 : zft 166 182 = some (1, .iaload) := by decide +kernel
theorem f_166_183 : zft 166 183 = some (1, .iconst 1) := by decide +kernel
theorem f_166_184 : zft 166 184 = some (1, .iadd) := by decide +kernel
theorem f_166_185 : zft 166 185 = some (1, .iastore) := by decide +kernel
theorem f_166_186 : zft 166 186 = some (1, .aload_n 0) := by decide +kernel
theorem f_166_187 : zft 166 187 = some (3, .getfield 7) := by decide +kernel
theorem f_166_190 : zft 166 190 = some (2, .bipush 120) := by decide +kernel
theorem f_166_192 : zft 166 192 = some (1, .iaload) := by decide +kernel
theorem f_166_193 : zft 166 193 = some (1, .iconst 1) := by decide +kernel
theorem f_166_194 : zft 166 194 = some (1, .isub) := by decide +kernel
theorem f_166_195 : zft 166 195 = some (1, .ireturn) := by decide +kernel
theorem f_167_0 : zft 167 0 = some (1, .iconst 0) := by decide +kernel
theorem f_167_1 : zft 167 1 = some (1, .istore_n 3) := by decide +kernel
theorem f_167_2 : zft 167 2 = some (1, .iload_n 3) := by decide +kernel
theorem f_167_3 : zft 167 3 = some (1, .aload_n 0) := by decide +kernel
theorem f_167_4 : zft 167 4 = some (3, .getfield 7) := by decide +kernel
theorem f_167_7 : zft 167 7 = some (2, .bipush 121) := by decide +kernel
theorem f_167_9 : zft 167 9 = some (1, .iaload) := by decide +kernel
theorem f_167_10 : zft 167 10 = some (3, .if_icmp .ge 51) := by decide +kernel
theorem f_167_13 : zft 167 13 = some (1, .aload_n 0) := by decide +kernel
theorem f_167_14 : zft 167 14 = some (1, .iload_n 3) := by decide +kernel
theorem f_167_15 : zft 167 15 = some (1, .iconst 0) := by decide +kernel
theorem f_167_16 : zft 167 16 = some (3, .invokevirtual 85) := by decide +kernel
theorem f_167_19 : zft 167 19 = some (1, .iload_n 1) := by decide +kernel
theorem f_167_20 : zft 167 20 = some (3, .if_icmp .ne 13) := by decide +kernel
theorem f_167_23 : zft 167 23 = some (1, .aload_n 0) := by decide +kernel
theorem f_167_24 : zft 167 24 = some (1, .iload_n 3) := by decide +kernel
theorem f_167_25 : zft 167 25 = some (1, .iconst 1) := by decide +kernel
theorem f_167_26 : zft 167 26 = some (3, .invokevirtual 85) := by decide +kernel
theorem f_167_29 : zft 167 29 = some (1, .iload_n 2) := by decide +kernel
theorem f_167_30 : zft 167 30 = some (3, .if_icmp .eq 23) := by decide +kernel
theorem f_167_33 : zft 167 33 = some (1, .aload_n 0) := by decide +kernel
theorem f_167_34 : zft 167 34 = some (1, .iload_n 3) := by decide +kernel
theorem f_167_35 : zft 167 35 = some (1, .iconst 0) := by decide +kernel
theorem f_167_36 : zft 167 36 = some (3, .invokevirtual 85) := by decide +kernel
theorem f_167_39 : zft 167 39 = some (1, .iload_n 2) := by decide +kernel
theorem f_167_40 : zft 167 40 = some (3, .if_icmp .ne 15) := by decide +kernel
theorem f_167_43 : zft 167 43 = some (1, .aload_n 0) := by decide +kernel
theorem f_167_44 : zft 167 44 = some (1, .iload_n 3) := by decide +kernel
theorem f_167_45 : zft 167 45 = some (1, .iconst 1) := by decide +kernel
theorem f_167_46 : zft 167 46 = some (3, .invokevirtual 85) := by decide +kernel
theorem f_167_49 : zft 167 49 = some (1, .iload_n 1) := by decide +kernel
theorem f_167_50 : zft 167 50 = some (3, .if_icmp .ne 5) := by decide +kernel
theorem f_167_53 : zft 167 53 = some (1, .iload_n 3) := by decide +kernel
theorem f_167_54 : zft 167 54 = some (1, .ireturn) := by decide +kernel
theorem f_167_55 : zft 167 55 = some (3, .iinc 3 1) := by decide +kernel
theorem f_167_58 : zft 167 58 = some (3, .goto (-56)) := by decide +kernel
theorem f_167_61 : zft 167 61 = some (1, .iconst (-1)) := by decide +kernel
theorem f_167_62 : zft 167 62 = some (1, .ireturn) := by decide +kernel
theorem f_168_0 : zft 168 0 = some (1, .aload_n 0) := by decide +kernel
theorem f_168_1 : zft 168 1 = some (1, .iload_n 1) := by decide +kernel
theorem f_168_2 : zft 168 2 = some (3, .invokevirtual 88) := by decide +kernel
theorem f_168_5 : zft 168 5 = some (3, .ifCond .eq 11) := by decide +kernel
theorem f_168_8 : zft 168 8 = some (1, .aload_n 0) := by decide +kernel
theorem f_168_9 : zft 168 9 = some (1, .iload_n 2) := by decide +kernel
theorem f_168_10 : zft 168 10 = some (3, .invokevirtual 88) := by decide +kernel
theorem f_168_13 : zft 168 13 = some (3, .ifCond .ne 6) := by decide +kernel
theorem f_168_16 : zft 168 16 = some (2, .bipush (-101)) := by decide +kernel
theorem f_168_18 : zft 168 18 = some (1, .ireturn) := by decide +kernel
theorem f_168_19 : zft 168 19 = some (1, .iload_n 1) := by decide +kernel
theorem f_168_20 : zft 168 20 = some (1, .iload_n 2) := by decide +kernel
theorem f_168_21 : zft 168 21 = some (3, .if_icmp .ne 6) := by decide +kernel
theorem f_168_24 : zft 168 24 = some (2, .bipush (-102)) := by decide +kernel
theorem f_168_26 : zft 168 26 = some (1, .ireturn) := by decide +kernel
theorem f_168_27 : zft 168 27 = some (1, .aload_n 0) := by decide +kernel
theorem f_168_28 : zft 168 28 = some (1, .iload_n 1) := by decide +kernel
theorem f_168_29 : zft 168 29 = some (1, .iload_n 2) := by decide +kernel
theorem f_168_30 : zft 168 30 = some (3, .invokevirtual 92) := by decide +kernel
theorem f_168_33 : zft 168 33 = some (3, .ifCond .lt 6) := by decide +kernel
theorem f_168_36 : zft 168 36 = some (2, .bipush (-106)) := by decide +kernel
theorem f_168_38 : zft 168 38 = some (1, .ireturn) := by decide +kernel
theorem f_168_39 : zft 168 39 = some (1, .aload_n 0) := by decide +kernel
theorem f_168_40 : zft 168 40 = some (3, .getfield 7) := by decide +kernel
theorem f_168_43 : zft 168 43 = some (2, .bipush 121) := by decide +kernel
theorem f_168_45 : zft 168 45 = some (1, .iaload) := by decide +kernel
theorem f_168_46 : zft 168 46 = some (2, .bipush 20) := by decide +kernel
theorem f_168_48 : zft 168 48 = some (3, .if_icmp .ne 6) := by decide +kernel
theorem f_168_51 : zft 168 51 = some (2, .bipush (-103)) := by decide +kernel
theorem f_168_53 : zft 168 53 = some (1, .ireturn) := by decide +kernel
theorem f_168_54 : zft 168 54 = some (2, .bipush 60) := by decide +kernel
theorem f_168_56 : zft 168 56 = some (1, .iconst 3) := by decide +kernel
theorem f_168_57 : zft 168 57 = some (1, .aload_n 0) := by decide +kernel
theorem f_168_58 : zft 168 58 = some (3, .getfield 7) := by decide +kernel
theorem f_168_61 : zft 168 61 = some (2, .bipush 121) := by decide +kernel
theorem f_168_63 : zft 168 63 = some (1, .iaload) := by decide +kernel
theorem f_168_64 : zft 168 64 = some (1, .imul) := by decide +kernel
theorem f_168_65 : zft 168 65 = some (1, .iadd) := by decide +kernel
theorem f_168_66 : zft 168 66 = some (1, .istore_n 3) := by decide +kernel
theorem f_168_67 : zft 168 67 = some (1, .aload_n 0) := by decide +kernel
theorem f_168_68 : zft 168 68 = some (3, .getfield 7) := by decide +kernel
theorem f_168_71 : zft 168 71 = some (1, .iload_n 3) := by decide +kernel
theorem f_168_72 : zft 168 72 = some (1, .iload_n 1) := by decide +kernel
theorem f_168_73 : zft 168 73 = some (1, .iload_n 2) := by decide +kernel
theorem f_168_74 : zft 168 74 = some (3, .if_icmp .ge 7) := by decide +kernel
theorem f_168_77 : zft 168 77 = some (1, .iload_n 1) := by decide +kernel
theorem f_168_78 : zft 168 78 = some (3, .goto 4) := by decide +kernel
theorem f_168_81 : zft 168 81 = some (1, .iload_n 2) := by decide +kernel
theorem f_168_82 : zft 168 82 = some (1, .iastore) := by decide +kernel
theorem f_168_83 : zft 168 83 = some (1, .aload_n 0) := by decide +kernel
theorem f_168_84 : zft 168 84 = some (3, .getfield 7) := by decide +kernel
theorem f_168_87 : zft 168 87 = some (1, .iload_n 3) := by decide +kernel
theorem f_168_88 : zft 168 88 = some (1, .iconst 1) := by decide +kernel
theorem f_168_89 : zft 168 89 = some (1, .iadd) := by decide +kernel
theorem f_168_90 : zft 168 90 = some (1, .iload_n 1) := by decide +kernel
theorem f_168_91 : zft 168 91 = some (1, .iload_n 2) := by decide +kernel
theorem f_168_92 : zft 168 92 = some (3, .if_icmp .ge 7) := by decide +kernel
theorem f_168_95 : zft 168 95 = some (1, .iload_n 2) := by decide +kernel
theorem f_168_96 : zft 168 96 = some (3, .goto 4) := by decide +kernel
theorem f_168_99 : zft 168 99 = some (1, .iload_n 1) := by decide +kernel
theorem f_168_100 : zft 168 100 = some (1, .iastore) := by decide +kernel
theorem f_168_101 : zft 168 101 = some (1, .aload_n 0) := by decide +kernel
theorem f_168_102 : zft 168 102 = some (3, .getfield 7) := by decide +kernel
theorem f_168_105 : zft 168 105 = some (1, .iload_n 3) := by decide +kernel
theorem f_168_106 : zft 168 106 = some (1, .iconst 2) := by decide +kernel
theorem f_168_107 : zft 168 107 = some (1, .iadd) := by decide +kernel
theorem f_168_108 : zft 168 108 = some (1, .iconst (-1)) := by decide +kernel
theorem f_168_109 : zft 168 109 = some (1, .iastore) := by decide +kernel
theorem f_168_110 : zft 168 110 = some (1, .aload_n 0) := by decide +kernel
theorem f_168_111 : zft 168 111 = some (3, .getfield 7) := by decide +kernel
theorem f_168_114 : zft 168 114 = some (2, .bipush 121) := by decide +kernel
theorem f_168_116 : zft 168 116 = some (1, .dup2) := by decide +kernel
theorem f_168_117 : zft 168 117 = some (1, .iaload) := by decide +kernel
theorem f_168_118 : zft 168 118 = some (1, .iconst 1) := by decide +kernel
theorem f_168_119 : zft 168 119 = some (1, .iadd) := by decide +kernel
theorem f_168_120 : zft 168 120 = some (1, .iastore) := by decide +kernel
theorem f_168_121 : zft 168 121 = some (1, .aload_n 0) := by decide +kernel
theorem f_168_122 : zft 168 122 = some (3, .getfield 7) := by decide +kernel
theorem f_168_125 : zft 168 125 = some (2, .bipush 121) := by decide +kernel
theorem f_168_127 : zft 168 127 = some (1, .iaload) := by decide +kernel
theorem f_168_128 : zft 168 128 = some (1, .iconst 1) := by decide +kernel
theorem f_168_129 : zft 168 129 = some (1, .isub) := by decide +kernel
theorem f_168_130 : zft 168 130 = some (1, .ireturn) := by decide +kernel
theorem f_169_0 : zft 169 0 = some (1, .iload_n 0) := by decide +kernel
theorem f_169_1 : zft 169 1 = some (1, .iconst (-1)) := by decide +kernel
theorem f_169_2 : zft 169 2 = some (3, .if_icmp .ne 8) := by decide +kernel
theorem f_169_5 : zft 169 5 = some (2, .bipush (-104)) := by decide +kernel
theorem f_169_7 : zft 169 7 = some (3, .goto 4) := by decide +kernel
theorem f_169_10 : zft 169 10 = some (1, .iload_n 0) := by decide +kernel
theorem f_169_11 : zft 169 11 = some (1, .ireturn) := by decide +kernel
theorem f_170_0 : zft 170 0 = some (1, .aload_n 0) := by decide +kernel
theorem f_170_1 : zft 170 1 = some (1, .iload_n 1) := by decide +kernel
theorem f_170_2 : zft 170 2 = some (3, .invokevirtual 95) := by decide +kernel
theorem f_170_5 : zft 170 5 = some (3, .ifCond .ne 6) := by decide +kernel
theorem f_170_8 : zft 170 8 = some (2, .bipush (-101)) := by decide +kernel
theorem f_170_10 : zft 170 10 = some (1, .ireturn) := by decide +kernel
theorem f_170_11 : zft 170 11 = some (1, .iload_n 2) := by decide +kernel
theorem f_170_12 : zft 170 12 = some (1, .iconst (-1)) := by decide +kernel
theorem f_170_13 : zft 170 13 = some (1, .iconst 5) := by decide +kernel
theorem f_170_14 : zft 170 14 = some (3, .invokestatic 58) := by decide +kernel
theorem f_170_17 : zft 170 17 = some (3, .ifCond .ne 6) := by decide +kernel
theorem f_170_20 : zft 170 20 = some (2, .bipush (-102)) := by decide +kernel
theorem f_170_22 : zft 170 22 = some (1, .ireturn) := by decide +kernel
theorem f_170_23 : zft 170 23 = some (1, .aload_n 0) := by decide +kernel
theorem f_170_24 : zft 170 24 = some (1, .iload_n 1) := by decide +kernel
theorem f_170_25 : zft 170 25 = some (1, .iconst 2) := by decide +kernel
theorem f_170_26 : zft 170 26 = some (3, .invokevirtual 85) := by decide +kernel
theorem f_170_29 : zft 170 29 = some (1, .istore_n 3) := by decide +kernel
theorem f_170_30 : zft 170 30 = some (1, .aload_n 0) := by decide +kernel
theorem f_170_31 : zft 170 31 = some (3, .getfield 7) := by decide +kernel
theorem f_170_34 : zft 170 34 = some (2, .bipush 60) := by decide +kernel
theorem f_170_36 : zft 170 36 = some (1, .iconst 3) := by decide +kernel
theorem f_170_37 : zft 170 37 = some (1, .iload_n 1) := by decide +kernel
theorem f_170_38 : zft 170 38 = some (1, .imul) := by decide +kernel
theorem f_170_39 : zft 170 39 = some (1, .iadd) := by decide +kernel
theorem f_170_40 : zft 170 40 = some (1, .iconst 2) := by decide +kernel
theorem f_170_41 : zft 170 41 = some (1, .iadd) := by decide +kernel
theorem f_170_42 : zft 170 42 = some (1, .iload_n 2) := by decide +kernel
theorem f_170_43 : zft 170 43 = some (1, .iastore) := by decide +kernel
theorem f_170_44 : zft 170 44 = some (1, .iload_n 3) := by decide +kernel
theorem f_170_45 : zft 170 45 = some (3, .invokestatic 98) := by decide +kernel
theorem f_170_48 : zft 170 48 = some (1, .ireturn) := by decide +kernel
theorem f_171_0 : zft 171 0 = some (1, .aload_n 0) := by decide +kernel
theorem f_171_1 : zft 171 1 = some (1, .iload_n 1) := by decide +kernel
theorem f_171_2 : zft 171 2 = some (3, .invokevirtual 88) := by decide +kernel
theorem f_171_5 : zft 171 5 = some (3, .ifCond .ne 6) := by decide +kernel
theorem f_171_8 : zft 171 8 = some (2, .bipush (-101)) := by decide +kernel
theorem f_171_10 : zft 171 10 = some (1, .ireturn) := by decide +kernel
theorem f_171_11 : zft 171 11 = some (1, .iload_n 2) := by decide +kernel
theorem f_171_12 : zft 171 12 = some (1, .iconst (-1)) := by decide +kernel
theorem f_171_13 : zft 171 13 = some (1, .iconst 5) := by decide +kernel
theorem f_171_14 : zft 171 14 = some (3, .invokestatic 58) := by decide +kernel
theorem f_171_17 : zft 171 17 = some (3, .ifCond .ne 6) := by decide +kernel
theorem f_171_20 : zft 171 20 = some (2, .bipush (-102)) := by decide +kernel
theorem f_171_22 : zft 171 22 = some (1, .ireturn) := by decide +kernel
theorem f_171_23 : zft 171 23 = some (1, .aload_n 0) := by decide +kernel
theorem f_171_24 : zft 171 24 = some (1, .iload_n 1) := by decide +kernel
theorem f_171_25 : zft 171 25 = some (1, .iconst 4) := by decide +kernel
theorem f_171_26 : zft 171 26 = some (3, .invokevirtual 62) := by decide +kernel
theorem f_171_29 : zft 171 29 = some (1, .istore_n 3) := by decide +kernel
theorem f_171_30 : zft 171 30 = some (1, .aload_n 0) := by decide +kernel
theorem f_171_31 : zft 171 31 = some (3, .getfield 7) := by decide +kernel
theorem f_171_34 : zft 171 34 = some (1, .iconst 0) := by decide +kernel
theorem f_171_35 : zft 171 35 = some (1, .iconst 5) := by decide +kernel
theorem f_171_36 : zft 171 36 = some (1, .iload_n 1) := by decide +kernel
theorem f_171_37 : zft 171 37 = some (1, .imul) := by decide +kernel
theorem f_171_38 : zft 171 38 = some (1, .iadd) := by decide +kernel
theorem f_171_39 : zft 171 39 = some (1, .iconst 4) := by decide +kernel
theorem f_171_40 : zft 171 40 = some (1, .iadd) := by decide +kernel
theorem f_171_41 : zft 171 41 = some (1, .iload_n 2) := by decide +kernel
theorem f_171_42 : zft 171 42 = some (1, .iastore) := by decide +kernel
theorem f_171_43 : zft 171 43 = some (1, .iload_n 3) := by decide +kernel
theorem f_171_44 : zft 171 44 = some (3, .invokestatic 98) := by decide +kernel
theorem f_171_47 : zft 171 47 = some (1, .ireturn) := by decide +kernel
theorem f_172_0 : zft 172 0 = some (1, .aload_n 0) := by decide +kernel
theorem f_172_1 : zft 172 1 = some (1, .iload_n 1) := by decide +kernel
theorem f_172_2 : zft 172 2 = some (3, .invokevirtual 88) := by decide +kernel
theorem f_172_5 : zft 172 5 = some (3, .ifCond .ne 6) := by decide +kernel
theorem f_172_8 : zft 172 8 = some (2, .bipush (-101)) := by decide +kernel
theorem f_172_10 : zft 172 10 = some (1, .ireturn) := by decide +kernel
theorem f_172_11 : zft 172 11 = some (1, .aload_n 0) := by decide +kernel
theorem f_172_12 : zft 172 12 = some (3, .getfield 7) := by decide +kernel
theorem f_172_15 : zft 172 15 = some (2, .bipush 122) := by decide +kernel
theorem f_172_17 : zft 172 17 = some (1, .iaload) := by decide +kernel
theorem f_172_18 : zft 172 18 = some (1, .istore_n 2) := by decide +kernel
theorem f_172_19 : zft 172 19 = some (1, .aload_n 0) := by decide +kernel
theorem f_172_20 : zft 172 20 = some (3, .getfield 7) := by decide +kernel
theorem f_172_23 : zft 172 23 = some (2, .bipush 122) := by decide +kernel
theorem f_172_25 : zft 172 25 = some (1, .iload_n 1) := by decide +kernel
theorem f_172_26 : zft 172 26 = some (1, .iastore) := by decide +kernel
theorem f_172_27 : zft 172 27 = some (1, .iload_n 2) := by decide +kernel
theorem f_172_28 : zft 172 28 = some (1, .ireturn) := by decide +kernel
theorem f_173_0 : zft 173 0 = some (1, .aload_n 0) := by decide +kernel
theorem f_173_1 : zft 173 1 = some (3, .getfield 7) := by decide +kernel
theorem f_173_4 : zft 173 4 = some (2, .bipush 121) := by decide +kernel
theorem f_173_6 : zft 173 6 = some (1, .dup2) := by decide +kernel
theorem f_173_7 : zft 173 7 = some (1, .iaload) := by decide +kernel
theorem f_173_8 : zft 173 8 = some (1, .iconst 1) := by decide +kernel
theorem f_173_9 : zft 173 9 = some (1, .isub) := by decide +kernel
theorem f_173_10 : zft 173 10 = some (1, .iastore) := by decide +kernel
theorem f_173_11 : zft 173 11 = some (2, .bipush 60) := by decide +kernel
theorem f_173_13 : zft 173 13 = some (1, .iconst 3) := by decide +kernel
theorem f_173_14 : zft 173 14 = some (1, .iload_n 1) := by decide +kernel
theorem f_173_15 : zft 173 15 = some (1, .imul) := by decide +kernel
theorem f_173_16 : zft 173 16 = some (1, .iadd) := by decide +kernel
theorem f_173_17 : zft 173 17 = some (1, .istore_n 2) := by decide +kernel
theorem f_173_18 : zft 173 18 = some (1, .iload_n 2) := by decide +kernel
theorem f_173_19 : zft 173 19 = some (2, .bipush 60) := by decide +kernel
theorem f_173_21 : zft 173 21 = some (1, .iconst 3) := by decide +kernel
theorem f_173_22 : zft 173 22 = some (1, .aload_n 0) := by decide +kernel
theorem f_173_23 : zft 173 23 = some (3, .getfield 7) := by decide +kernel
theorem f_173_26 : zft 173 26 = some (2, .bipush 121) := by decide +kernel
theorem f_173_28 : zft 173 28 = some (1, .iaload) := by decide +kernel
theorem f_173_29 : zft 173 29 = some (1, .imul) := by decide +kernel
theorem f_173_30 : zft 173 30 = some (1, .iadd) := by decide +kernel
theorem f_173_31 : zft 173 31 = some (3, .if_icmp .ge 23) := by decide +kernel
theorem f_173_34 : zft 173 34 = some (1, .aload_n 0) := by decide +kernel
theorem f_173_35 : zft 173 35 = some (3, .getfield 7) := by decide +kernel
theorem f_173_38 : zft 173 38 = some (1, .iload_n 2) := by decide +kernel
theorem f_173_39 : zft 173 39 = some (1, .aload_n 0) := by decide +kernel
theorem f_173_40 : zft 173 40 = some (3, .getfield 7) := by decide +kernel
theorem f_173_43 : zft 173 43 = some (1, .iload_n 2) := by decide +kernel
theorem f_173_44 : zft 173 44 = some (1, .iconst 3) := by decide +kernel
theorem f_173_45 : zft 173 45 = some (1, .iadd) := by decide +kernel
theorem f_173_46 : zft 173 46 = some (1, .iaload) := by decide +kernel
theorem f_173_47 : zft 173 47 = some (1, .iastore) := by decide +kernel
theorem f_173_48 : zft 173 48 = some (3, .iinc 2 1) := by decide +kernel
theorem f_173_51 : zft 173 51 = some (3, .goto (-33)) := by decide +kernel
theorem f_173_54 : zft 173 54 = some (1, .return_) := by decide +kernel
theorem f_174_0 : zft 174 0 = some (1, .aload_n 0) := by decide +kernel
theorem f_174_1 : zft 174 1 = some (3, .invokevirtual 101) := by decide +kernel
theorem f_174_4 : zft 174 4 = some (1, .aload_n 0) := by decide +kernel
theorem f_174_5 : zft 174 5 = some (1, .aload_n 0) := by decide +kernel
theorem f_174_6 : zft 174 6 = some (1, .iload_n 1) := by decide +kernel
theorem f_174_7 : zft 174 7 = some (1, .iload_n 2) := by decide +kernel
theorem f_174_8 : zft 174 8 = some (1, .iload_n 3) := by decide +kernel
theorem f_174_9 : zft 174 9 = some (2, .iload 4) := by decide +kernel
theorem f_174_11 : zft 174 11 = some (3, .invokevirtual 104) := by decide +kernel
theorem f_174_14 : zft 174 14 = some (3, .invokevirtual 108) := by decide +kernel
theorem f_174_17 : zft 174 17 = some (1, .ireturn) := by decide +kernel
theorem f_175_0 : zft 175 0 = some (1, .aload_n 0) := by decide +kernel
theorem f_175_1 : zft 175 1 = some (3, .invokevirtual 101) := by decide +kernel
theorem f_175_4 : zft 175 4 = some (1, .aload_n 0) := by decide +kernel
theorem f_175_5 : zft 175 5 = some (1, .aload_n 0) := by decide +kernel
theorem f_175_6 : zft 175 6 = some (1, .iload_n 1) := by decide +kernel
theorem f_175_7 : zft 175 7 = some (1, .iload_n 2) := by decide +kernel
theorem f_175_8 : zft 175 8 = some (3, .invokevirtual 111) := by decide +kernel
theorem f_175_11 : zft 175 11 = some (3, .invokevirtual 108) := by decide +kernel
theorem f_175_14 : zft 175 14 = some (1, .ireturn) := by decide +kernel
theorem f_176_0 : zft 176 0 = some (1, .aload_n 0) := by decide +kernel
theorem f_176_1 : zft 176 1 = some (3, .invokevirtual 101) := by decide +kernel
theorem f_176_4 : zft 176 4 = some (1, .aload_n 0) := by decide +kernel
theorem f_176_5 : zft 176 5 = some (1, .aload_n 0) := by decide +kernel
theorem f_176_6 : zft 176 6 = some (1, .iload_n 1) := by decide +kernel
theorem f_176_7 : zft 176 7 = some (1, .iload_n 2) := by decide +kernel
theorem f_176_8 : zft 176 8 = some (3, .invokevirtual 114) := by decide +kernel
theorem f_176_11 : zft 176 11 = some (3, .invokevirtual 108) := by decide +kernel
theorem f_176_14 : zft 176 14 = some (1, .ireturn) := by decide +kernel
theorem f_177_0 : zft 177 0 = some (1, .aload_n 0) := by decide +kernel
theorem f_177_1 : zft 177 1 = some (3, .invokevirtual 101) := by decide +kernel
theorem f_177_4 : zft 177 4 = some (1, .aload_n 0) := by decide +kernel
theorem f_177_5 : zft 177 5 = some (1, .aload_n 0) := by decide +kernel
theorem f_177_6 : zft 177 6 = some (1, .iload_n 1) := by decide +kernel
theorem f_177_7 : zft 177 7 = some (1, .iload_n 2) := by decide +kernel
theorem f_177_8 : zft 177 8 = some (3, .invokevirtual 117) := by decide +kernel
theorem f_177_11 : zft 177 11 = some (3, .invokevirtual 108) := by decide +kernel
theorem f_177_14 : zft 177 14 = some (1, .ireturn) := by decide +kernel
theorem f_178_0 : zft 178 0 = some (1, .aload_n 0) := by decide +kernel
theorem f_178_1 : zft 178 1 = some (3, .invokevirtual 101) := by decide +kernel
theorem f_178_4 : zft 178 4 = some (1, .aload_n 0) := by decide +kernel
theorem f_178_5 : zft 178 5 = some (1, .aload_n 0) := by decide +kernel
theorem f_178_6 : zft 178 6 = some (1, .iload_n 1) := by decide +kernel
theorem f_178_7 : zft 178 7 = some (3, .invokevirtual 120) := by decide +kernel
theorem f_178_10 : zft 178 10 = some (3, .invokevirtual 108) := by decide +kernel
theorem f_178_13 : zft 178 13 = some (1, .ireturn) := by decide +kernel
theorem f_179_0 : zft 179 0 = some (1, .aload_n 0) := by decide +kernel
theorem f_179_1 : zft 179 1 = some (1, .iload_n 1) := by decide +kernel
theorem f_179_2 : zft 179 2 = some (3, .invokevirtual 88) := by decide +kernel
theorem f_179_5 : zft 179 5 = some (3, .ifCond .ne 6) := by decide +kernel
theorem f_179_8 : zft 179 8 = some (2, .bipush (-101)) := by decide +kernel
theorem f_179_10 : zft 179 10 = some (1, .ireturn) := by decide +kernel
theorem f_179_11 : zft 179 11 = some (1, .aload_n 0) := by decide +kernel
theorem f_179_12 : zft 179 12 = some (3, .invokevirtual 101) := by decide +kernel
theorem f_179_15 : zft 179 15 = some (1, .aload_n 0) := by decide +kernel
theorem f_179_16 : zft 179 16 = some (3, .getfield 7) := by decide +kernel
theorem f_179_19 : zft 179 19 = some (2, .bipush 121) := by decide +kernel
theorem f_179_21 : zft 179 21 = some (1, .iaload) := by decide +kernel
theorem f_179_22 : zft 179 22 = some (1, .iconst 1) := by decide +kernel
theorem f_179_23 : zft 179 23 = some (1, .isub) := by decide +kernel
theorem f_179_24 : zft 179 24 = some (1, .istore_n 2) := by decide +kernel
theorem f_179_25 : zft 179 25 = some (1, .iload_n 2) := by decide +kernel
theorem f_179_26 : zft 179 26 = some (3, .ifCond .lt 34) := by decide +kernel
theorem f_179_29 : zft 179 29 = some (1, .aload_n 0) := by decide +kernel
theorem f_179_30 : zft 179 30 = some (1, .iload_n 2) := by decide +kernel
theorem f_179_31 : zft 179 31 = some (1, .iconst 0) := by decide +kernel
theorem f_179_32 : zft 179 32 = some (3, .invokevirtual 85) := by decide +kernel
theorem f_179_35 : zft 179 35 = some (1, .iload_n 1) := by decide +kernel
theorem f_179_36 : zft 179 36 = some (3, .if_icmp .eq 13) := by decide +kernel
theorem f_179_39 : zft 179 39 = some (1, .aload_n 0) := by decide +kernel
theorem f_179_40 : zft 179 40 = some (1, .iload_n 2) := by decide +kernel
theorem f_179_41 : zft 179 41 = some (1, .iconst 1) := by decide +kernel
theorem f_179_42 : zft 179 42 = some (3, .invokevirtual 85) := by decide +kernel
theorem f_179_45 : zft 179 45 = some (1, .iload_n 1) := by decide +kernel
theorem f_179_46 : zft 179 46 = some (3, .if_icmp .ne 8) := by decide +kernel
theorem f_179_49 : zft 179 49 = some (1, .aload_n 0) := by decide +kernel
theorem f_179_50 : zft 179 50 = some (1, .iload_n 2) := by decide +kernel
theorem f_179_51 : zft 179 51 = some (3, .invokevirtual 123) := by decide +kernel
theorem f_179_54 : zft 179 54 = some (3, .iinc 2 (-1)) := by decide +kernel
theorem f_179_57 : zft 179 57 = some (3, .goto (-32)) := by decide +kernel
theorem f_179_60 : zft 179 60 = some (1, .iconst 0) := by decide +kernel
theorem f_179_61 : zft 179 61 = some (1, .istore_n 2) := by decide +kernel
theorem f_179_62 : zft 179 62 = some (1, .iload_n 2) := by decide +kernel
theorem f_179_63 : zft 179 63 = some (1, .aload_n 0) := by decide +kernel
theorem f_179_64 : zft 179 64 = some (3, .getfield 7) := by decide +kernel
theorem f_179_67 : zft 179 67 = some (2, .bipush 121) := by decide +kernel
theorem f_179_69 : zft 179 69 = some (1, .iaload) := by decide +kernel
theorem f_179_70 : zft 179 70 = some (3, .if_icmp .ge 53) := by decide +kernel
theorem f_179_73 : zft 179 73 = some (1, .iconst 0) := by decide +kernel
theorem f_179_74 : zft 179 74 = some (1, .istore_n 3) := by decide +kernel
theorem f_179_75 : zft 179 75 = some (1, .iload_n 3) := by decide +kernel
theorem f_179_76 : zft 179 76 = some (1, .iconst 2) := by decide +kernel
theorem f_179_77 : zft 179 77 = some (3, .if_icmp .ge 40) := by decide +kernel
theorem f_179_80 : zft 179 80 = some (1, .aload_n 0) := by decide +kernel
theorem f_179_81 : zft 179 81 = some (3, .getfield 7) := by decide +kernel
theorem f_179_84 : zft 179 84 = some (2, .bipush 60) := by decide +kernel
theorem f_179_86 : zft 179 86 = some (1, .iconst 3) := by decide +kernel
theorem f_179_87 : zft 179 87 = some (1, .iload_n 2) := by decide +kernel
theorem f_179_88 : zft 179 88 = some (1, .imul) := by decide +kernel
theorem f_179_89 : zft 179 89 = some (1, .iadd) := by decide +kernel
theorem f_179_90 : zft 179 90 = some (1, .iload_n 3) := by decide +kernel
theorem f_179_91 : zft 179 91 = some (1, .iadd) := by decide +kernel
theorem f_179_92 : zft 179 92 = some (1, .dup2) := by decide +kernel
theorem f_179_93 : zft 179 93 = some (1, .iaload) := by decide +kernel
theorem f_179_94 : zft 179 94 = some (1, .aload_n 0) := by decide +kernel
theorem f_179_95 : zft 179 95 = some (1, .iload_n 2) := by decide +kernel
theorem f_179_96 : zft 179 96 = some (1, .iload_n 3) := by decide +kernel
theorem f_179_97 : zft 179 97 = some (3, .invokevirtual 85) := by decide +kernel
theorem f_179_100 : zft 179 100 = some (1, .iload_n 1) := by decide +kernel
theorem f_179_101 : zft 179 101 = some (3, .if_icmp .le 7) := by decide +kernel
theorem f_179_104 : zft 179 104 = some (1, .iconst 1) := by decide +kernel
theorem f_179_105 : zft 179 105 = some (3, .goto 4) := by decide +kernel
theorem f_179_108 : zft 179 108 = some (1, .iconst 0) := by decide +kernel
theorem f_179_109 : zft 179 109 = some (1, .isub) := by decide +kernel
theorem f_179_110 : zft 179 110 = some (1, .iastore) := by decide +kernel
theorem f_179_111 : zft 179 111 = some (3, .iinc 3 1) := by decide +kernel
theorem f_179_114 : zft 179 114 = some (3, .goto (-39)) := by decide +kernel
theorem f_179_117 : zft 179 117 = some (3, .iinc 2 1) := by decide +kernel
theorem f_179_120 : zft 179 120 = some (3, .goto (-58)) := by decide +kernel
theorem f_179_123 : zft 179 123 = some (1, .aload_n 0) := by decide +kernel
theorem f_179_124 : zft 179 124 = some (3, .getfield 7) := by decide +kernel
theorem f_179_127 : zft 179 127 = some (2, .bipush 120) := by decide +kernel
theorem f_179_129 : zft 179 129 = some (1, .dup2) := by decide +kernel
theorem f_179_130 : zft 179 130 = some (1, .iaload) := by decide +kernel
theorem f_179_131 : zft 179 131 = some (1, .iconst 1) := by decide +kernel
theorem f_179_132 : zft 179 132 = some (1, .isub) := by decide +kernel
theorem f_179_133 : zft 179 133 = some (1, .iastore) := by decide +kernel
theorem f_179_134 : zft 179 134 = some (1, .iconst 5) := by decide +kernel
theorem f_179_135 : zft 179 135 = some (1, .iload_n 1) := by decide +kernel
theorem f_179_136 : zft 179 136 = some (1, .imul) := by decide +kernel
theorem f_179_137 : zft 179 137 = some (1, .istore_n 2) := by decide +kernel
theorem f_179_138 : zft 179 138 = some (1, .iload_n 2) := by decide +kernel
theorem f_179_139 : zft 179 139 = some (1, .iconst 5) := by decide +kernel
theorem f_179_140 : zft 179 140 = some (1, .aload_n 0) := by decide +kernel
theorem f_179_141 : zft 179 141 = some (3, .getfield 7) := by decide +kernel
theorem f_179_144 : zft 179 144 = some (2, .bipush 120) := by decide +kernel
theorem f_179_146 : zft 179 146 = some (1, .iaload) := by decide +kernel
theorem f_179_147 : zft 179 147 = some (1, .imul) := by decide +kernel
theorem f_179_148 : zft 179 148 = some (3, .if_icmp .ge 27) := by decide +kernel
theorem f_179_151 : zft 179 151 = some (1, .aload_n 0) := by decide +kernel
theorem f_179_152 : zft 179 152 = some (3, .getfield 7) := by decide +kernel
theorem f_179_155 : zft 179 155 = some (1, .iconst 0) := by decide +kernel
theorem f_179_156 : zft 179 156 = some (1, .iload_n 2) := by decide +kernel
theorem f_179_157 : zft 179 157 = some (1, .iadd) := by decide +kernel
theorem f_179_158 : zft 179 158 = some (1, .aload_n 0) := by decide +kernel
theorem f_179_159 : zft 179 159 = some (3, .getfield 7) := by decide +kernel
theorem f_179_162 : zft 179 162 = some (1, .iconst 0) := by decide +kernel
theorem f_179_163 : zft 179 163 = some (1, .iload_n 2) := by decide +kernel
theorem f_179_164 : zft 179 164 = some (1, .iadd) := by decide +kernel
theorem f_179_165 : zft 179 165 = some (1, .iconst 5) := by decide +kernel
theorem f_179_166 : zft 179 166 = some (1, .iadd) := by decide +kernel
theorem f_179_167 : zft 179 167 = some (1, .iaload) := by decide +kernel
theorem f_179_168 : zft 179 168 = some (1, .iastore) := by decide +kernel
theorem f_179_169 : zft 179 169 = some (3, .iinc 2 1) := by decide +kernel
theorem f_179_172 : zft 179 172 = some (3, .goto (-34)) := by decide +kernel
theorem f_179_175 : zft 179 175 = some (1, .aload_n 0) := by decide +kernel
theorem f_179_176 : zft 179 176 = some (3, .getfield 7) := by decide +kernel
theorem f_179_179 : zft 179 179 = some (2, .bipush 122) := by decide +kernel
theorem f_179_181 : zft 179 181 = some (1, .aload_n 0) := by decide +kernel
theorem f_179_182 : zft 179 182 = some (3, .getfield 7) := by decide +kernel
theorem f_179_185 : zft 179 185 = some (2, .bipush 122) := by decide +kernel
theorem f_179_187 : zft 179 187 = some (1, .iaload) := by decide +kernel
theorem f_179_188 : zft 179 188 = some (1, .iload_n 1) := by decide +kernel
theorem f_179_189 : zft 179 189 = some (3, .if_icmp .ne 7) := by decide +kernel
theorem f_179_192 : zft 179 192 = some (1, .iconst 0) := by decide +kernel
theorem f_179_193 : zft 179 193 = some (3, .goto 33) := by decide +kernel
theorem f_179_196 : zft 179 196 = some (1, .aload_n 0) := by decide +kernel
theorem f_179_197 : zft 179 197 = some (3, .getfield 7) := by decide +kernel
theorem f_179_200 : zft 179 200 = some (2, .bipush 122) := by decide +kernel
theorem f_179_202 : zft 179 202 = some (1, .iaload) := by decide +kernel
theorem f_179_203 : zft 179 203 = some (1, .iload_n 1) := by decide +kernel
theorem f_179_204 : zft 179 204 = some (3, .if_icmp .le 15) := by decide +kernel
theorem f_179_207 : zft 179 207 = some (1, .aload_n 0) := by decide +kernel
theorem f_179_208 : zft 179 208 = some (3, .getfield 7) := by decide +kernel
theorem f_179_211 : zft 179 211 = some (2, .bipush 122) := by decide +kernel
theorem f_179_213 : zft 179 213 = some (1, .iaload) := by decide +kernel
theorem f_179_214 : zft 179 214 = some (1, .iconst 1) := by decide +kernel
theorem f_179_215 : zft 179 215 = some (1, .isub) := by decide +kernel
theorem f_179_216 : zft 179 216 = some (3, .goto 10) := by decide +kernel
theorem f_179_219 : zft 179 219 = some (1, .aload_n 0) := by decide +kernel
theorem f_179_220 : zft 179 220 = some (3, .getfield 7) := by decide +kernel
theorem f_179_223 : zft 179 223 = some (2, .bipush 122) := by decide +kernel
theorem f_179_225 : zft 179 225 = some (1, .iaload) := by decide +kernel
theorem f_179_226 : zft 179 226 = some (1, .iastore) := by decide +kernel
theorem f_179_227 : zft 179 227 = some (1, .aload_n 0) := by decide +kernel
theorem f_179_228 : zft 179 228 = some (3, .invokevirtual 79) := by decide +kernel
theorem f_179_231 : zft 179 231 = some (1, .aload_n 0) := by decide +kernel
theorem f_179_232 : zft 179 232 = some (3, .getfield 7) := by decide +kernel
theorem f_179_235 : zft 179 235 = some (2, .bipush 120) := by decide +kernel
theorem f_179_237 : zft 179 237 = some (1, .iaload) := by decide +kernel
theorem f_179_238 : zft 179 238 = some (1, .ireturn) := by decide +kernel
theorem f_180_0 : zft 180 0 = some (1, .aload_n 0) := by decide +kernel
theorem f_180_1 : zft 180 1 = some (1, .iload_n 1) := by decide +kernel
theorem f_180_2 : zft 180 2 = some (3, .invokevirtual 95) := by decide +kernel
theorem f_180_5 : zft 180 5 = some (3, .ifCond .ne 6) := by decide +kernel
theorem f_180_8 : zft 180 8 = some (2, .bipush (-101)) := by decide +kernel
theorem f_180_10 : zft 180 10 = some (1, .ireturn) := by decide +kernel
theorem f_180_11 : zft 180 11 = some (1, .aload_n 0) := by decide +kernel
theorem f_180_12 : zft 180 12 = some (3, .invokevirtual 101) := by decide +kernel
theorem f_180_15 : zft 180 15 = some (1, .aload_n 0) := by decide +kernel
theorem f_180_16 : zft 180 16 = some (1, .iload_n 1) := by decide +kernel
theorem f_180_17 : zft 180 17 = some (3, .invokevirtual 123) := by decide +kernel
theorem f_180_20 : zft 180 20 = some (1, .aload_n 0) := by decide +kernel
theorem f_180_21 : zft 180 21 = some (3, .invokevirtual 79) := by decide +kernel
theorem f_180_24 : zft 180 24 = some (1, .aload_n 0) := by decide +kernel
theorem f_180_25 : zft 180 25 = some (3, .getfield 7) := by decide +kernel
theorem f_180_28 : zft 180 28 = some (2, .bipush 121) := by decide +kernel
theorem f_180_30 : zft 180 30 = some (1, .iaload) := by decide +kernel
theorem f_180_31 : zft 180 31 = some (1, .ireturn) := by decide +kernel
theorem f_181_0 : zft 181 0 = some (1, .aload_n 0) := by decide +kernel
theorem f_181_1 : zft 181 1 = some (1, .aload_n 0) := by decide +kernel
theorem f_181_2 : zft 181 2 = some (3, .getfield 127) := by decide +kernel
theorem f_181_5 : zft 181 5 = some (2, .ldc 130) := by decide +kernel
theorem f_181_7 : zft 181 7 = some (1, .imul) := by decide +kernel
theorem f_181_8 : zft 181 8 = some (3, .sipush 12345) := by decide +kernel
theorem f_181_11 : zft 181 11 = some (1, .iadd) := by decide +kernel
theorem f_181_12 : zft 181 12 = some (3, .putfield 127) := by decide +kernel
theorem f_181_15 : zft 181 15 = some (1, .aload_n 0) := by decide +kernel
theorem f_181_16 : zft 181 16 = some (3, .getfield 127) := by decide +kernel
theorem f_181_19 : zft 181 19 = some (2, .bipush 16) := by decide +kernel
theorem f_181_21 : zft 181 21 = some (1, .iushr) := by decide +kernel
theorem f_181_22 : zft 181 22 = some (3, .sipush 32767) := by decide +kernel
theorem f_181_25 : zft 181 25 = some (1, .iand) := by decide +kernel
theorem f_181_26 : zft 181 26 = some (1, .iload_n 1) := by decide +kernel
theorem f_181_27 : zft 181 27 = some (1, .irem) := by decide +kernel
theorem f_181_28 : zft 181 28 = some (1, .ireturn) := by decide +kernel
theorem f_182_0 : zft 182 0 = some (2, .iload 5) := by decide +kernel
theorem f_182_2 : zft 182 2 = some (3, .ifCond .eq 16) := by decide +kernel
theorem f_182_5 : zft 182 5 = some (1, .iload_n 3) := by decide +kernel
theorem f_182_6 : zft 182 6 = some (2, .bipush 10) := by decide +kernel
theorem f_182_8 : zft 182 8 = some (3, .if_icmp .ge 68) := by decide +kernel
theorem f_182_11 : zft 182 11 = some (2, .iload 4) := by decide +kernel
theorem f_182_13 : zft 182 13 = some (2, .bipush 10) := by decide +kernel
theorem f_182_15 : zft 182 15 = some (3, .if_icmp .ge 61) := by decide +kernel
theorem f_182_18 : zft 182 18 = some (1, .iconst 4) := by decide +kernel
theorem f_182_19 : zft 182 19 = some (1, .aload_n 0) := by decide +kernel
theorem f_182_20 : zft 182 20 = some (3, .getfield 131) := by decide +kernel
theorem f_182_23 : zft 182 23 = some (1, .imul) := by decide +kernel
theorem f_182_24 : zft 182 24 = some (2, .istore 6) := by decide +kernel
theorem f_182_26 : zft 182 26 = some (1, .aload_n 0) := by decide +kernel
theorem f_182_27 : zft 182 27 = some (3, .getfield 22) := by decide +kernel
theorem f_182_30 : zft 182 30 = some (2, .iload 6) := by decide +kernel
theorem f_182_32 : zft 182 32 = some (1, .iload_n 1) := by decide +kernel
theorem f_182_33 : zft 182 33 = some (1, .iastore) := by decide +kernel
theorem f_182_34 : zft 182 34 = some (1, .aload_n 0) := by decide +kernel
theorem f_182_35 : zft 182 35 = some (3, .getfield 22) := by decide +kernel
theorem f_182_38 : zft 182 38 = some (2, .iload 6) := by decide +kernel
theorem f_182_40 : zft 182 40 = some (1, .iconst 1) := by decide +kernel
theorem f_182_41 : zft 182 41 = some (1, .iadd) := by decide +kernel
theorem f_182_42 : zft 182 42 = some (1, .iload_n 2) := by decide +kernel
theorem f_182_43 : zft 182 43 = some (1, .iastore) := by decide +kernel
theorem f_182_44 : zft 182 44 = some (1, .aload_n 0) := by decide +kernel
theorem f_182_45 : zft 182 45 = some (3, .getfield 22) := by decide +kernel
theorem f_182_48 : zft 182 48 = some (2, .iload 6) := by decide +kernel
theorem f_182_50 : zft 182 50 = some (1, .iconst 2) := by decide +kernel
theorem f_182_51 : zft 182 51 = some (1, .iadd) := by decide +kernel
theorem f_182_52 : zft 182 52 = some (1, .iload_n 3) := by decide +kernel
theorem f_182_53 : zft 182 53 = some (1, .iastore) := by decide +kernel
theorem f_182_54 : zft 182 54 = some (1, .aload_n 0) := by decide +kernel
theorem f_182_55 : zft 182 55 = some (3, .getfield 22) := by decide +kernel
theorem f_182_58 : zft 182 58 = some (2, .iload 6) := by decide +kernel
theorem f_182_60 : zft 182 60 = some (1, .iconst 3) := by decide +kernel
theorem f_182_61 : zft 182 61 = some (1, .iadd) := by decide +kernel
theorem f_182_62 : zft 182 62 = some (2, .iload 4) := by decide +kernel
theorem f_182_64 : zft 182 64 = some (1, .iastore) := by decide +kernel
theorem f_182_65 : zft 182 65 = some (1, .aload_n 0) := by decide +kernel
theorem f_182_66 : zft 182 66 = some (1, .dup) := by decide +kernel
theorem f_182_67 : zft 182 67 = some (3, .getfield 131) := by decide +kernel
theorem f_182_70 : zft 182 70 = some (1, .iconst 1) := by decide +kernel
theorem f_182_71 : zft 182 71 = some (1, .iadd) := by decide +kernel
theorem f_182_72 : zft 182 72 = some (3, .putfield 131) := by decide +kernel
theorem f_182_75 : zft 182 75 = some (1, .return_) := by decide +kernel
theorem f_182_76 : zft 182 76 = some (1, .iload_n 3) := by decide +kernel
theorem f_182_77 : zft 182 77 = some (2, .bipush 10) := by decide +kernel
theorem f_182_79 : zft 182 79 = some (3, .if_icmp .lt 26) := by decide +kernel
theorem f_182_82 : zft 182 82 = some (2, .iload 4) := by decide +kernel
theorem f_182_84 : zft 182 84 = some (2, .bipush 10) := by decide +kernel
theorem f_182_86 : zft 182 86 = some (3, .if_icmp .lt 19) := by decide +kernel
theorem f_182_89 : zft 182 89 = some (1, .aload_n 0) := by decide +kernel
theorem f_182_90 : zft 182 90 = some (1, .iconst 2) := by decide +kernel
theorem f_182_91 : zft 182 91 = some (3, .invokevirtual 134) := by decide +kernel
theorem f_182_94 : zft 182 94 = some (3, .ifCond .ne 7) := by decide +kernel
theorem f_182_97 : zft 182 97 = some (1, .iconst 1) := by decide +kernel
theorem f_182_98 : zft 182 98 = some (3, .goto 18) := by decide +kernel
theorem f_182_101 : zft 182 101 = some (1, .iconst 0) := by decide +kernel
theorem f_182_102 : zft 182 102 = some (3, .goto 14) := by decide +kernel
theorem f_182_105 : zft 182 105 = some (1, .iload_n 3) := by decide +kernel
theorem f_182_106 : zft 182 106 = some (2, .bipush 10) := by decide +kernel
theorem f_182_108 : zft 182 108 = some (3, .if_icmp .lt 7) := by decide +kernel
theorem f_182_111 : zft 182 111 = some (1, .iconst 1) := by decide +kernel
theorem f_182_112 : zft 182 112 = some (3, .goto 4) := by decide +kernel
theorem f_182_115 : zft 182 115 = some (1, .iconst 0) := by decide +kernel
theorem f_182_116 : zft 182 116 = some (2, .istore 6) := by decide +kernel
theorem f_182_118 : zft 182 118 = some (1, .iconst 5) := by decide +kernel
theorem f_182_119 : zft 182 119 = some (1, .aload_n 0) := by decide +kernel
theorem f_182_120 : zft 182 120 = some (2, .iload 6) := by decide +kernel
theorem f_182_122 : zft 182 122 = some (3, .ifCond .eq 7) := by decide +kernel
theorem f_182_125 : zft 182 125 = some (1, .iload_n 3) := by decide +kernel
theorem f_182_126 : zft 182 126 = some (3, .goto 5) := by decide +kernel
theorem f_182_129 : zft 182 129 = some (2, .iload 4) := by decide +kernel
theorem f_182_131 : zft 182 131 = some (2, .bipush 9) := by decide +kernel
theorem f_182_133 : zft 182 133 = some (1, .isub) := by decide +kernel
theorem f_182_134 : zft 182 134 = some (3, .invokevirtual 134) := by decide +kernel
theorem f_182_137 : zft 182 137 = some (1, .iadd) := by decide +kernel
theorem f_182_138 : zft 182 138 = some (2, .istore 7) := by decide +kernel
theorem f_182_140 : zft 182 140 = some (1, .aload_n 0) := by decide +kernel
theorem f_182_141 : zft 182 141 = some (3, .getfield 131) := by decide +kernel
theorem f_182_144 : zft 182 144 = some (2, .istore 8) := by decide +kernel
theorem f_182_146 : zft 182 146 = some (1, .aload_n 0) := by decide +kernel
theorem f_182_147 : zft 182 147 = some (1, .iload_n 1) := by decide +kernel
theorem f_182_148 : zft 182 148 = some (1, .iload_n 2) := by decide +kernel
theorem f_182_149 : zft 182 149 = some (2, .iload 6) := by decide +kernel
theorem f_182_151 : zft 182 151 = some (3, .ifCond .eq 8) := by decide +kernel
theorem f_182_154 : zft 182 154 = some (2, .iload 7) := by decide +kernel
theorem f_182_156 : zft 182 156 = some (3, .goto 4) := by decide +kernel
theorem f_182_159 : zft 182 159 = some (1, .iload_n 3) := by decide +kernel
theorem f_182_160 : zft 182 160 = some (2, .iload 6) := by decide +kernel
theorem f_182_162 : zft 182 162 = some (3, .ifCond .eq 8) := by decide +kernel
theorem f_182_165 : zft 182 165 = some (2, .iload 4) := by decide +kernel
theorem f_182_167 : zft 182 167 = some (3, .goto 5) := by decide +kernel
theorem f_182_170 : zft 182 170 = some (2, .iload 7) := by decide +kernel
theorem f_182_172 : zft 182 172 = some (2, .iload 5) := by decide +kernel
theorem f_182_174 : zft 182 174 = some (1, .iconst 1) := by decide +kernel
theorem f_182_175 : zft 182 175 = some (1, .isub) := by decide +kernel
theorem f_182_176 : zft 182 176 = some (3, .invokestatic 137) := by decide +kernel
theorem f_182_179 : zft 182 179 = some (1, .aload_n 0) := by decide +kernel
theorem f_182_180 : zft 182 180 = some (3, .getfield 131) := by decide +kernel
theorem f_182_183 : zft 182 183 = some (2, .istore 9) := by decide +kernel
theorem f_182_185 : zft 182 185 = some (1, .aload_n 0) := by decide +kernel
theorem f_182_186 : zft 182 186 = some (2, .iload 6) := by decide +kernel
theorem f_182_188 : zft 182 188 = some (3, .ifCond .eq 10) := by decide +kernel
theorem f_182_191 : zft 182 191 = some (1, .iload_n 1) := by decide +kernel
theorem f_182_192 : zft 182 192 = some (2, .iload 7) := by decide +kernel
theorem f_182_194 : zft 182 194 = some (1, .iadd) := by decide +kernel
theorem f_182_195 : zft 182 195 = some (3, .goto 4) := by decide +kernel
theorem f_182_198 : zft 182 198 = some (1, .iload_n 1) := by decide +kernel
theorem f_182_199 : zft 182 199 = some (2, .iload 6) := by decide +kernel
theorem f_182_201 : zft 182 201 = some (3, .ifCond .eq 7) := by decide +kernel
theorem f_182_204 : zft 182 204 = some (1, .iload_n 2) := by decide +kernel
theorem f_182_205 : zft 182 205 = some (3, .goto 7) := by decide +kernel
theorem f_182_208 : zft 182 208 = some (1, .iload_n 2) := by decide +kernel
theorem f_182_209 : zft 182 209 = some (2, .iload 7) := by decide +kernel
theorem f_182_211 : zft 182 211 = some (1, .iadd) := by decide +kernel
theorem f_182_212 : zft 182 212 = some (2, .iload 6) := by decide +kernel
theorem f_182_214 : zft 182 214 = some (3, .ifCond .eq 10) := by decide +kernel
theorem f_182_217 : zft 182 217 = some (1, .iload_n 3) := by decide +kernel
theorem f_182_218 : zft 182 218 = some (2, .iload 7) := by decide +kernel
theorem f_182_220 : zft 182 220 = some (1, .isub) := by decide +kernel
theorem f_182_221 : zft 182 221 = some (3, .goto 4) := by decide +kernel
theorem f_182_224 : zft 182 224 = some (1, .iload_n 3) := by decide +kernel
theorem f_182_225 : zft 182 225 = some (2, .iload 6) := by decide +kernel
theorem f_182_227 : zft 182 227 = some (3, .ifCond .eq 8) := by decide +kernel
theorem f_182_230 : zft 182 230 = some (2, .iload 4) := by decide +kernel
theorem f_182_232 : zft 182 232 = some (3, .goto 8) := by decide +kernel
theorem f_182_235 : zft 182 235 = some (2, .iload 4) := by decide +kernel
theorem f_182_237 : zft 182 237 = some (2, .iload 7) := by decide +kernel
theorem f_182_239 : zft 182 239 = some (1, .isub) := by decide +kernel
theorem f_182_240 : zft 182 240 = some (2, .iload 5) := by decide +kernel
theorem f_182_242 : zft 182 242 = some (1, .iconst 1) := by decide +kernel
theorem f_182_243 : zft 182 243 = some (1, .isub) := by decide +kernel
theorem f_182_244 : zft 182 244 = some (3, .invokestatic 137) := by decide +kernel
theorem f_182_247 : zft 182 247 = some (1, .iconst 3) := by decide +kernel
theorem f_182_248 : zft 182 248 = some (1, .aload_n 0) := by decide +kernel
theorem f_182_249 : zft 182 249 = some (3, .getfield 141) := by decide +kernel
theorem f_182_252 : zft 182 252 = some (1, .imul) := by decide +kernel
theorem f_182_253 : zft 182 253 = some (2, .istore 10) := by decide +kernel
theorem f_182_255 : zft 182 255 = some (1, .aload_n 0) := by decide +kernel
theorem f_182_256 : zft 182 256 = some (3, .getfield 25) := by decide +kernel
theorem f_182_259 : zft 182 259 = some (2, .iload 10) := by decide +kernel
theorem f_182_261 : zft 182 261 = some (2, .iload 8) := by decide +kernel
theorem f_182_263 : zft 182 263 = some (1, .iastore) := by decide +kernel
theorem f_182_264 : zft 182 264 = some (1, .aload_n 0) := by decide +kernel
theorem f_182_265 : zft 182 265 = some (3, .getfield 25) := by decide +kernel
theorem f_182_268 : zft 182 268 = some (2, .iload 10) := by decide +kernel
theorem f_182_270 : zft 182 270 = some (1, .iconst 1) := by decide +kernel
theorem f_182_271 : zft 182 271 = some (1, .iadd) := by decide +kernel
theorem f_182_272 : zft 182 272 = some (2, .iload 9) := by decide +kernel
theorem f_182_274 : zft 182 274 = some (1, .iastore) := by decide +kernel
theorem f_182_275 : zft 182 275 = some (1, .aload_n 0) := by decide +kernel
theorem f_182_276 : zft 182 276 = some (3, .getfield 25) := by decide +kernel
theorem f_182_279 : zft 182 279 = some (2, .iload 10) := by decide +kernel
theorem f_182_281 : zft 182 281 = some (1, .iconst 2) := by decide +kernel
theorem f_182_282 : zft 182 282 = some (1, .iadd) := by decide +kernel
theorem f_182_283 : zft 182 283 = some (1, .aload_n 0) := by decide +kernel
theorem f_182_284 : zft 182 284 = some (3, .getfield 131) := by decide +kernel
theorem f_182_287 : zft 182 287 = some (1, .iastore) := by decide +kernel
theorem f_182_288 : zft 182 288 = some (1, .aload_n 0) := by decide +kernel
theorem f_182_289 : zft 182 289 = some (1, .dup) := by decide +kernel
theorem f_182_290 : zft 182 290 = some (3, .getfield 141) := by decide +kernel
theorem f_182_293 : zft 182 293 = some (1, .iconst 1) := by decide +kernel
theorem f_182_294 : zft 182 294 = some (1, .iadd) := by decide +kernel
theorem f_182_295 : zft 182 295 = some (3, .putfield 141) := by decide +kernel
theorem f_182_298 : zft 182 298 = some (1, .return_) := by decide +kernel
theorem f_183_0 : zft 183 0 = some (1, .iload_n 0) := by decide +kernel
theorem f_183_1 : zft 183 1 = some (1, .iload_n 1) := by decide +kernel
theorem f_183_2 : zft 183 2 = some (3, .if_icmp .ge 7) := by decide +kernel
theorem f_183_5 : zft 183 5 = some (1, .iload_n 0) := by decide +kernel
theorem f_183_6 : zft 183 6 = some (3, .goto 4) := by decide +kernel
theorem f_183_9 : zft 183 9 = some (1, .iload_n 1) := by decide +kernel
theorem f_183_10 : zft 183 10 = some (1, .ireturn) := by decide +kernel
theorem f_184_0 : zft 184 0 = some (1, .iload_n 1) := by decide +kernel
theorem f_184_1 : zft 184 1 = some (2, .istore 4) := by decide +kernel
theorem f_184_3 : zft 184 3 = some (1, .iload_n 2) := by decide +kernel
theorem f_184_4 : zft 184 4 = some (2, .istore 5) := by decide +kernel
theorem f_184_6 : zft 184 6 = some (1, .iload_n 1) := by decide +kernel
theorem f_184_7 : zft 184 7 = some (2, .istore 6) := by decide +kernel
theorem f_184_9 : zft 184 9 = some (2, .iload 6) := by decide +kernel
theorem f_184_11 : zft 184 11 = some (1, .iload_n 2) := by decide +kernel
theorem f_184_12 : zft 184 12 = some (3, .if_icmp .ge 51) := by decide +kernel
theorem f_184_15 : zft 184 15 = some (1, .iload_n 2) := by decide +kernel
theorem f_184_16 : zft 184 16 = some (2, .istore 7) := by decide +kernel
theorem f_184_18 : zft 184 18 = some (2, .iload 7) := by decide +kernel
theorem f_184_20 : zft 184 20 = some (1, .iload_n 3) := by decide +kernel
theorem f_184_21 : zft 184 21 = some (3, .if_icmp .ge 36) := by decide +kernel
theorem f_184_24 : zft 184 24 = some (1, .aload_n 0) := by decide +kernel
theorem f_184_25 : zft 184 25 = some (2, .iload 6) := by decide +kernel
theorem f_184_27 : zft 184 27 = some (2, .iload 7) := by decide +kernel
theorem f_184_29 : zft 184 29 = some (3, .invokevirtual 144) := by decide +kernel
theorem f_184_32 : zft 184 32 = some (1, .aload_n 0) := by decide +kernel
theorem f_184_33 : zft 184 33 = some (2, .iload 4) := by decide +kernel
theorem f_184_35 : zft 184 35 = some (2, .iload 5) := by decide +kernel
theorem f_184_37 : zft 184 37 = some (3, .invokevirtual 144) := by decide +kernel
theorem f_184_40 : zft 184 40 = some (3, .if_icmp .ge 11) := by decide +kernel
theorem f_184_43 : zft 184 43 = some (2, .iload 6) := by decide +kernel
theorem f_184_45 : zft 184 45 = some (2, .istore 4) := by decide +kernel
theorem f_184_47 : zft 184 47 = some (2, .iload 7) := by decide +kernel
theorem f_184_49 : zft 184 49 = some (2, .istore 5) := by decide +kernel
theorem f_184_51 : zft 184 51 = some (3, .iinc 7 1) := by decide +kernel
theorem f_184_54 : zft 184 54 = some (3, .goto (-36)) := by decide +kernel
theorem f_184_57 : zft 184 57 = some (3, .iinc 6 1) := by decide +kernel
theorem f_184_60 : zft 184 60 = some (3, .goto (-51)) := by decide +kernel
theorem f_184_63 : zft 184 63 = some (1, .aload_n 0) := by decide +kernel
theorem f_184_64 : zft 184 64 = some (2, .iload 4) := by decide +kernel
theorem f_184_66 : zft 184 66 = some (2, .iload 5) := by decide +kernel
theorem f_184_68 : zft 184 68 = some (3, .invokevirtual 111) := by decide +kernel
theorem f_184_71 : zft 184 71 = some (2, .istore 6) := by decide +kernel
theorem f_184_73 : zft 184 73 = some (1, .return_) := by decide +kernel
theorem f_185_0 : zft 185 0 = some (1, .iload_n 2) := by decide +kernel
theorem f_185_1 : zft 185 1 = some (1, .iconst 0) := by decide +kernel
theorem f_185_2 : zft 185 2 = some (1, .iconst 5) := by decide +kernel
theorem f_185_3 : zft 185 3 = some (3, .invokestatic 58) := by decide +kernel
theorem f_185_6 : zft 185 6 = some (3, .ifCond .ne 6) := by decide +kernel
theorem f_185_9 : zft 185 9 = some (2, .bipush (-102)) := by decide +kernel
theorem f_185_11 : zft 185 11 = some (1, .ireturn) := by decide +kernel
theorem f_185_12 : zft 185 12 = some (1, .aload_n 0) := by decide +kernel
theorem f_185_13 : zft 185 13 = some (3, .invokevirtual 101) := by decide +kernel
theorem f_185_16 : zft 185 16 = some (1, .aload_n 0) := by decide +kernel
theorem f_185_17 : zft 185 17 = some (3, .getfield 7) := by decide +kernel
theorem f_185_20 : zft 185 20 = some (2, .bipush 123) := by decide +kernel
theorem f_185_22 : zft 185 22 = some (1, .iaload) := by decide +kernel
theorem f_185_23 : zft 185 23 = some (1, .istore_n 3) := by decide +kernel
theorem f_185_24 : zft 185 24 = some (1, .iconst 0) := by decide +kernel
theorem f_185_25 : zft 185 25 = some (2, .istore 4) := by decide +kernel
theorem f_185_27 : zft 185 27 = some (2, .iload 4) := by decide +kernel
theorem f_185_29 : zft 185 29 = some (2, .bipush 124) := by decide +kernel
theorem f_185_31 : zft 185 31 = some (3, .if_icmp .ge 17) := by decide +kernel
theorem f_185_34 : zft 185 34 = some (1, .aload_n 0) := by decide +kernel
theorem f_185_35 : zft 185 35 = some (3, .getfield 7) := by decide +kernel
theorem f_185_38 : zft 185 38 = some (2, .iload 4) := by decide +kernel
theorem f_185_40 : zft 185 40 = some (1, .iconst 0) := by decide +kernel
theorem f_185_41 : zft 185 41 = some (1, .iastore) := by decide +kernel
theorem f_185_42 : zft 185 42 = some (3, .iinc 4 1) := by decide +kernel
theorem f_185_45 : zft 185 45 = some (3, .goto (-18)) := by decide +kernel
theorem f_185_48 : zft 185 48 = some (1, .aload_n 0) := by decide +kernel
theorem f_185_49 : zft 185 49 = some (3, .getfield 7) := by decide +kernel
theorem f_185_52 : zft 185 52 = some (2, .bipush 123) := by decide +kernel
theorem f_185_54 : zft 185 54 = some (1, .iload_n 3) := by decide +kernel
theorem f_185_55 : zft 185 55 = some (1, .iastore) := by decide +kernel
theorem f_185_56 : zft 185 56 = some (1, .aload_n 0) := by decide +kernel
theorem f_185_57 : zft 185 57 = some (1, .iload_n 1) := by decide +kernel
theorem f_185_58 : zft 185 58 = some (3, .putfield 127) := by decide +kernel
theorem f_185_61 : zft 185 61 = some (1, .aload_n 0) := by decide +kernel
theorem f_185_62 : zft 185 62 = some (1, .iconst 0) := by decide +kernel
theorem f_185_63 : zft 185 63 = some (3, .putfield 131) := by decide +kernel
theorem f_185_66 : zft 185 66 = some (1, .aload_n 0) := by decide +kernel
theorem f_185_67 : zft 185 67 = some (1, .iconst 0) := by decide +kernel
theorem f_185_68 : zft 185 68 = some (3, .putfield 141) := by decide +kernel
theorem f_185_71 : zft 185 71 = some (1, .aload_n 0) := by decide +kernel
theorem f_185_72 : zft 185 72 = some (1, .iconst 0) := by decide +kernel
theorem f_185_73 : zft 185 73 = some (1, .iconst 0) := by decide +kernel
theorem f_185_74 : zft 185 74 = some (2, .bipush 24) := by decide +kernel
theorem f_185_76 : zft 185 76 = some (2, .bipush 16) := by decide +kernel
theorem f_185_78 : zft 185 78 = some (1, .iload_n 2) := by decide +kernel
theorem f_185_79 : zft 185 79 = some (3, .invokestatic 137) := by decide +kernel
theorem f_185_82 : zft 185 82 = some (1, .iconst 0) := by decide +kernel
theorem f_185_83 : zft 185 83 = some (2, .istore 4) := by decide +kernel
theorem f_185_85 : zft 185 85 = some (2, .iload 4) := by decide +kernel
theorem f_185_87 : zft 185 87 = some (1, .aload_n 0) := by decide +kernel
theorem f_185_88 : zft 185 88 = some (3, .getfield 131) := by decide +kernel
theorem f_185_91 : zft 185 91 = some (3, .if_icmp .ge 145) := by decide +kernel
theorem f_185_94 : zft 185 94 = some (2, .bipush 12) := by decide +kernel
theorem f_185_96 : zft 185 96 = some (1, .iconst 3) := by decide +kernel
theorem f_185_97 : zft 185 97 = some (1, .aload_n 0) := by decide +kernel
theorem f_185_98 : zft 185 98 = some (1, .aload_n 0) := by decide +kernel
theorem f_185_99 : zft 185 99 = some (3, .getfield 22) := by decide +kernel
theorem f_185_102 : zft 185 102 = some (1, .iconst 4) := by decide +kernel
theorem f_185_103 : zft 185 103 = some (2, .iload 4) := by decide +kernel
theorem f_185_105 : zft 185 105 = some (1, .imul) := by decide +kernel
theorem f_185_106 : zft 185 106 = some (1, .iconst 2) := by decide +kernel
theorem f_185_107 : zft 185 107 = some (1, .iadd) := by decide +kernel
theorem f_185_108 : zft 185 108 = some (1, .iaload) := by decide +kernel
theorem f_185_109 : zft 185 109 = some (1, .iconst 4) := by decide +kernel
theorem f_185_110 : zft 185 110 = some (1, .isub) := by decide +kernel
theorem f_185_111 : zft 185 111 = some (3, .invokevirtual 134) := by decide +kernel
theorem f_185_114 : zft 185 114 = some (1, .iadd) := by decide +kernel
theorem f_185_115 : zft 185 115 = some (3, .invokestatic 147) := by decide +kernel
theorem f_185_118 : zft 185 118 = some (2, .istore 5) := by decide +kernel
theorem f_185_120 : zft 185 120 = some (2, .bipush 12) := by decide +kernel
theorem f_185_122 : zft 185 122 = some (1, .iconst 3) := by decide +kernel
theorem f_185_123 : zft 185 123 = some (1, .aload_n 0) := by decide +kernel
theorem f_185_124 : zft 185 124 = some (1, .aload_n 0) := by decide +kernel
theorem f_185_125 : zft 185 125 = some (3, .getfield 22) := by decide +kernel
theorem f_185_128 : zft 185 128 = some (1, .iconst 4) := by decide +kernel
theorem f_185_129 : zft 185 129 = some (2, .iload 4) := by decide +kernel
theorem f_185_131 : zft 185 131 = some (1, .imul) := by decide +kernel
theorem f_185_132 : zft 185 132 = some (1, .iconst 3) := by decide +kernel
theorem f_185_133 : zft 185 133 = some (1, .iadd) := by decide +kernel
theorem f_185_134 : zft 185 134 = some (1, .iaload) := by decide +kernel
theorem f_185_135 : zft 185 135 = some (1, .iconst 4) := by decide +kernel
theorem f_185_136 : zft 185 136 = some (1, .isub) := by decide +kernel
theorem f_185_137 : zft 185 137 = some (3, .invokevirtual 134) := by decide +kernel
theorem f_185_140 : zft 185 140 = some (1, .iadd) := by decide +kernel
theorem f_185_141 : zft 185 141 = some (3, .invokestatic 147) := by decide +kernel
theorem f_185_144 : zft 185 144 = some (2, .istore 6) := by decide +kernel
theorem f_185_146 : zft 185 146 = some (1, .aload_n 0) := by decide +kernel
theorem f_185_147 : zft 185 147 = some (3, .getfield 22) := by decide +kernel
theorem f_185_150 : zft 185 150 = some (1, .iconst 4) := by decide +kernel
theorem f_185_151 : zft 185 151 = some (2, .iload 4) := by decide +kernel
theorem f_185_153 : zft 185 153 = some (1, .imul) := by decide +kernel
theorem f_185_154 : zft 185 154 = some (1, .iaload) := by decide +kernel
theorem f_185_155 : zft 185 155 = some (1, .iconst 1) := by decide +kernel
theorem f_185_156 : zft 185 156 = some (1, .iadd) := by decide +kernel
theorem f_185_157 : zft 185 157 = some (1, .aload_n 0) := by decide +kernel
theorem f_185_158 : zft 185 158 = some (1, .aload_n 0) := by decide +kernel
theorem f_185_159 : zft 185 159 = some (3, .getfield 22) := by decide +kernel
theorem f_185_162 : zft 185 162 = some (1, .iconst 4) := by decide +kernel
theorem f_185_163 : zft 185 163 = some (2, .iload 4) := by decide +kernel
theorem f_185_165 : zft 185 165 = some (1, .imul) := by decide +kernel
theorem f_185_166 : zft 185 166 = some (1, .iconst 2) := by decide +kernel
theorem f_185_167 : zft 185 167 = some (1, .iadd) := by decide +kernel
theorem f_185_168 : zft 185 168 = some (1, .iaload) := by decide +kernel
theorem f_185_169 : zft 185 169 = some (2, .iload 5) := by decide +kernel
theorem f_185_171 : zft 185 171 = some (1, .isub) := by decide +kernel
theorem f_185_172 : zft 185 172 = some (1, .iconst 1) := by decide +kernel
theorem f_185_173 : zft 185 173 = some (1, .isub) := by decide +kernel
theorem f_185_174 : zft 185 174 = some (3, .invokevirtual 134) := by decide +kernel
theorem f_185_177 : zft 185 177 = some (1, .iadd) := by decide +kernel
theorem f_185_178 : zft 185 178 = some (2, .istore 7) := by decide +kernel
theorem f_185_180 : zft 185 180 = some (1, .aload_n 0) := by decide +kernel
theorem f_185_181 : zft 185 181 = some (3, .getfield 22) := by decide +kernel
theorem f_185_184 : zft 185 184 = some (1, .iconst 4) := by decide +kernel
theorem f_185_185 : zft 185 185 = some (2, .iload 4) := by decide +kernel
theorem f_185_187 : zft 185 187 = some (1, .imul) := by decide +kernel
theorem f_185_188 : zft 185 188 = some (1, .iconst 1) := by decide +kernel
theorem f_185_189 : zft 185 189 = some (1, .iadd) := by decide +kernel
theorem f_185_190 : zft 185 190 = some (1, .iaload) := by decide +kernel
theorem f_185_191 : zft 185 191 = some (1, .iconst 1) := by decide +kernel
theorem f_185_192 : zft 185 192 = some (1, .iadd) := by decide +kernel
theorem f_185_193 : zft 185 193 = some (1, .aload_n 0) := by decide +kernel
theorem f_185_194 : zft 185 194 = some (1, .aload_n 0) := by decide +kernel
theorem f_185_195 : zft 185 195 = some (3, .getfield 22) := by decide +kernel
theorem f_185_198 : zft 185 198 = some (1, .iconst 4) := by decide +kernel
theorem f_185_199 : zft 185 199 = some (2, .iload 4) := by decide +kernel
theorem f_185_201 : zft 185 201 = some (1, .imul) := by decide +kernel
theorem f_185_202 : zft 185 202 = some (1, .iconst 3) := by decide +kernel
theorem f_185_203 : zft 185 203 = some (1, .iadd) := by decide +kernel
theorem f_185_204 : zft 185 204 = some (1, .iaload) := by decide +kernel
theorem f_185_205 : zft 185 205 = some (2, .iload 6) := by decide +kernel
theorem f_185_207 : zft 185 207 = some (1, .isub) := by decide +kernel
theorem f_185_208 : zft 185 208 = some (1, .iconst 1) := by decide +kernel
theorem f_185_209 : zft 185 209 = some (1, .isub) := by decide +kernel
theorem f_185_210 : zft 185 210 = some (3, .invokevirtual 134) := by decide +kernel
theorem f_185_213 : zft 185 213 = some (1, .iadd) := by decide +kernel
theorem f_185_214 : zft 185 214 = some (2, .istore 8) := by decide +kernel
theorem f_185_216 : zft 185 216 = some (1, .aload_n 0) := by decide +kernel
theorem f_185_217 : zft 185 217 = some (2, .iload 7) := by decide +kernel
theorem f_185_219 : zft 185 219 = some (2, .iload 8) := by decide +kernel
theorem f_185_221 : zft 185 221 = some (2, .iload 5) := by decide +kernel
theorem f_185_223 : zft 185 223 = some (2, .iload 6) := by decide +kernel
theorem f_185_225 : zft 185 225 = some (3, .invokevirtual 104) := by decide +kernel
theorem f_185_228 : zft 185 228 = some (2, .istore 9) := by decide +kernel
theorem f_185_230 : zft 185 230 = some (3, .iinc 4 1) := by decide +kernel
theorem f_185_233 : zft 185 233 = some (3, .goto (-148)) := by decide +kernel
theorem f_185_236 : zft 185 236 = some (1, .iconst 0) := by decide +kernel
theorem f_185_237 : zft 185 237 = some (2, .istore 4) := by decide +kernel
theorem f_185_239 : zft 185 239 = some (2, .iload 4) := by decide +kernel
theorem f_185_241 : zft 185 241 = some (1, .aload_n 0) := by decide +kernel
theorem f_185_242 : zft 185 242 = some (3, .getfield 141) := by decide +kernel
theorem f_185_245 : zft 185 245 = some (3, .if_icmp .ge 44) := by decide +kernel
theorem f_185_248 : zft 185 248 = some (1, .aload_n 0) := by decide +kernel
theorem f_185_249 : zft 185 249 = some (1, .aload_n 0) := by decide +kernel
theorem f_185_250 : zft 185 250 = some (3, .getfield 25) := by decide +kernel
theorem f_185_253 : zft 185 253 = some (1, .iconst 3) := by decide +kernel
theorem f_185_254 : zft 185 254 = some (2, .iload 4) := by decide +kernel
theorem f_185_256 : zft 185 256 = some (1, .imul) := by decide +kernel
theorem f_185_257 : zft 185 257 = some (1, .iaload) := by decide +kernel
theorem f_185_258 : zft 185 258 = some (1, .aload_n 0) := by decide +kernel
theorem f_185_259 : zft 185 259 = some (3, .getfield 25) := by decide +kernel
theorem f_185_262 : zft 185 262 = some (1, .iconst 3) := by decide +kernel
theorem f_185_263 : zft 185 263 = some (2, .iload 4) := by decide +kernel
theorem f_185_265 : zft 185 265 = some (1, .imul) := by decide +kernel
theorem f_185_266 : zft 185 266 = some (1, .iconst 1) := by decide +kernel
theorem f_185_267 : zft 185 267 = some (1, .iadd) := by decide +kernel
theorem f_185_268 : zft 185 268 = some (1, .iaload) := by decide +kernel
theorem f_185_269 : zft 185 269 = some (1, .aload_n 0) := by decide +kernel
theorem f_185_270 : zft 185 270 = some (3, .getfield 25) := by decide +kernel
theorem f_185_273 : zft 185 273 = some (1, .iconst 3) := by decide +kernel
theorem f_185_274 : zft 185 274 = some (2, .iload 4) := by decide +kernel
theorem f_185_276 : zft 185 276 = some (1, .imul) := by decide +kernel
theorem f_185_277 : zft 185 277 = some (1, .iconst 2) := by decide +kernel
theorem f_185_278 : zft 185 278 = some (1, .iadd) := by decide +kernel
theorem f_185_279 : zft 185 279 = some (1, .iaload) := by decide +kernel
theorem f_185_280 : zft 185 280 = some (3, .invokevirtual 150) := by decide +kernel
theorem f_185_283 : zft 185 283 = some (3, .iinc 4 1) := by decide +kernel
theorem f_185_286 : zft 185 286 = some (3, .goto (-47)) := by decide +kernel
theorem f_185_289 : zft 185 289 = some (1, .aload_n 0) := by decide +kernel
theorem f_185_290 : zft 185 290 = some (3, .invokevirtual 79) := by decide +kernel
theorem f_185_293 : zft 185 293 = some (1, .aload_n 0) := by decide +kernel
theorem f_185_294 : zft 185 294 = some (3, .getfield 7) := by decide +kernel
theorem f_185_297 : zft 185 297 = some (2, .bipush 120) := by decide +kernel
theorem f_185_299 : zft 185 299 = some (1, .iaload) := by decide +kernel
theorem f_185_300 : zft 185 300 = some (1, .ireturn) := by decide +kernel
theorem f_186_0 : zft 186 0 = some (1, .iconst (-1)) := by decide +kernel
theorem f_186_1 : zft 186 1 = some (1, .istore_n 1) := by decide +kernel
theorem f_186_2 : zft 186 2 = some (1, .iconst (-1)) := by decide +kernel
theorem f_186_3 : zft 186 3 = some (1, .istore_n 2) := by decide +kernel
theorem f_186_4 : zft 186 4 = some (1, .iconst 0) := by decide +kernel
theorem f_186_5 : zft 186 5 = some (1, .istore_n 3) := by decide +kernel
theorem f_186_6 : zft 186 6 = some (1, .iload_n 3) := by decide +kernel
theorem f_186_7 : zft 186 7 = some (1, .aload_n 0) := by decide +kernel
theorem f_186_8 : zft 186 8 = some (3, .getfield 7) := by decide +kernel
theorem f_186_11 : zft 186 11 = some (2, .bipush 120) := by decide +kernel
theorem f_186_13 : zft 186 13 = some (1, .iaload) := by decide +kernel
theorem f_186_14 : zft 186 14 = some (3, .if_icmp .ge 69) := by decide +kernel
theorem f_186_17 : zft 186 17 = some (1, .iload_n 3) := by decide +kernel
theorem f_186_18 : zft 186 18 = some (1, .iconst 1) := by decide +kernel
theorem f_186_19 : zft 186 19 = some (1, .iadd) := by decide +kernel
theorem f_186_20 : zft 186 20 = some (2, .istore 4) := by decide +kernel
theorem f_186_22 : zft 186 22 = some (2, .iload 4) := by decide +kernel
theorem f_186_24 : zft 186 24 = some (1, .aload_n 0) := by decide +kernel
theorem f_186_25 : zft 186 25 = some (3, .getfield 7) := by decide +kernel
theorem f_186_28 : zft 186 28 = some (2, .bipush 120) := by decide +kernel
theorem f_186_30 : zft 186 30 = some (1, .iaload) := by decide +kernel
theorem f_186_31 : zft 186 31 = some (3, .if_icmp .ge 46) := by decide +kernel
theorem f_186_34 : zft 186 34 = some (1, .aload_n 0) := by decide +kernel
theorem f_186_35 : zft 186 35 = some (1, .iload_n 3) := by decide +kernel
theorem f_186_36 : zft 186 36 = some (2, .iload 4) := by decide +kernel
theorem f_186_38 : zft 186 38 = some (3, .invokevirtual 92) := by decide +kernel
theorem f_186_41 : zft 186 41 = some (1, .iconst (-1)) := by decide +kernel
theorem f_186_42 : zft 186 42 = some (3, .if_icmp .ne 29) := by decide +kernel
theorem f_186_45 : zft 186 45 = some (1, .iload_n 1) := by decide +kernel
theorem f_186_46 : zft 186 46 = some (1, .iconst (-1)) := by decide +kernel
theorem f_186_47 : zft 186 47 = some (3, .if_icmp .eq 19) := by decide +kernel
theorem f_186_50 : zft 186 50 = some (1, .aload_n 0) := by decide +kernel
theorem f_186_51 : zft 186 51 = some (1, .iload_n 3) := by decide +kernel
theorem f_186_52 : zft 186 52 = some (2, .iload 4) := by decide +kernel
theorem f_186_54 : zft 186 54 = some (3, .invokevirtual 144) := by decide +kernel
theorem f_186_57 : zft 186 57 = some (1, .aload_n 0) := by decide +kernel
theorem f_186_58 : zft 186 58 = some (1, .iload_n 1) := by decide +kernel
theorem f_186_59 : zft 186 59 = some (1, .iload_n 2) := by decide +kernel
theorem f_186_60 : zft 186 60 = some (3, .invokevirtual 144) := by decide +kernel
theorem f_186_63 : zft 186 63 = some (3, .if_icmp .ge 8) := by decide +kernel
theorem f_186_66 : zft 186 66 = some (1, .iload_n 3) := by decide +kernel
theorem f_186_67 : zft 186 67 = some (1, .istore_n 1) := by decide +kernel
theorem f_186_68 : zft 186 68 = some (2, .iload 4) := by decide +kernel
theorem f_186_70 : zft 186 70 = some (1, .istore_n 2) := by decide +kernel
theorem f_186_71 : zft 186 71 = some (3, .iinc 4 1) := by decide +kernel
theorem f_186_74 : zft 186 74 = some (3, .goto (-52)) := by decide +kernel
theorem f_186_77 : zft 186 77 = some (3, .iinc 3 1) := by decide +kernel
theorem f_186_80 : zft 186 80 = some (3, .goto (-74)) := by decide +kernel
theorem f_186_83 : zft 186 83 = some (1, .iload_n 1) := by decide +kernel
theorem f_186_84 : zft 186 84 = some (1, .iconst (-1)) := by decide +kernel
theorem f_186_85 : zft 186 85 = some (3, .if_icmp .ne 6) := by decide +kernel
theorem f_186_88 : zft 186 88 = some (2, .bipush (-104)) := by decide +kernel
theorem f_186_90 : zft 186 90 = some (1, .ireturn) := by decide +kernel
theorem f_186_91 : zft 186 91 = some (1, .aload_n 0) := by decide +kernel
theorem f_186_92 : zft 186 92 = some (3, .invokevirtual 101) := by decide +kernel
theorem f_186_95 : zft 186 95 = some (1, .aload_n 0) := by decide +kernel
theorem f_186_96 : zft 186 96 = some (1, .iload_n 1) := by decide +kernel
theorem f_186_97 : zft 186 97 = some (1, .iload_n 2) := by decide +kernel
theorem f_186_98 : zft 186 98 = some (3, .invokevirtual 111) := by decide +kernel
theorem f_186_101 : zft 186 101 = some (1, .istore_n 3) := by decide +kernel
theorem f_186_102 : zft 186 102 = some (1, .iload_n 3) := by decide +kernel
theorem f_186_103 : zft 186 103 = some (3, .ifCond .lt 7) := by decide +kernel
theorem f_186_106 : zft 186 106 = some (1, .aload_n 0) := by decide +kernel
theorem f_186_107 : zft 186 107 = some (3, .invokevirtual 79) := by decide +kernel
theorem f_186_110 : zft 186 110 = some (1, .iload_n 3) := by decide +kernel
theorem f_186_111 : zft 186 111 = some (1, .ireturn) := by decide +kernel
theorem f_187_0 : zft 187 0 = some (1, .iconst 0) := by decide +kernel
theorem f_187_1 : zft 187 1 = some (1, .istore_n 3) := by decide +kernel
theorem f_187_2 : zft 187 2 = some (1, .iload_n 3) := by decide +kernel
theorem f_187_3 : zft 187 3 = some (2, .bipush 12) := by decide +kernel
theorem f_187_5 : zft 187 5 = some (3, .if_icmp .ge 36) := by decide +kernel
theorem f_187_8 : zft 187 8 = some (1, .aload_n 0) := by decide +kernel
theorem f_187_9 : zft 187 9 = some (3, .getfield 28) := by decide +kernel
theorem f_187_12 : zft 187 12 = some (1, .iload_n 3) := by decide +kernel
theorem f_187_13 : zft 187 13 = some (1, .iload_n 3) := by decide +kernel
theorem f_187_14 : zft 187 14 = some (1, .iload_n 1) := by decide +kernel
theorem f_187_15 : zft 187 15 = some (3, .if_icmp .ne 18) := by decide +kernel
theorem f_187_18 : zft 187 18 = some (1, .iload_n 3) := by decide +kernel
theorem f_187_19 : zft 187 19 = some (1, .aload_n 0) := by decide +kernel
theorem f_187_20 : zft 187 20 = some (3, .getfield 7) := by decide +kernel
theorem f_187_23 : zft 187 23 = some (2, .bipush 120) := by decide +kernel
theorem f_187_25 : zft 187 25 = some (1, .iaload) := by decide +kernel
theorem f_187_26 : zft 187 26 = some (3, .if_icmp .ge 7) := by decide +kernel
theorem f_187_29 : zft 187 29 = some (1, .iconst 0) := by decide +kernel
theorem f_187_30 : zft 187 30 = some (3, .goto 4) := by decide +kernel
theorem f_187_33 : zft 187 33 = some (1, .iconst (-1)) := by decide +kernel
theorem f_187_34 : zft 187 34 = some (1, .iastore) := by decide +kernel
theorem f_187_35 : zft 187 35 = some (3, .iinc 3 1) := by decide +kernel
theorem f_187_38 : zft 187 38 = some (3, .goto (-36)) := by decide +kernel
theorem f_187_41 : zft 187 41 = some (1, .iconst 0) := by decide +kernel
theorem f_187_42 : zft 187 42 = some (1, .istore_n 3) := by decide +kernel
theorem f_187_43 : zft 187 43 = some (1, .iload_n 3) := by decide +kernel
theorem f_187_44 : zft 187 44 = some (2, .bipush 12) := by decide +kernel
theorem f_187_46 : zft 187 46 = some (3, .if_icmp .ge 127) := by decide +kernel
theorem f_187_49 : zft 187 49 = some (1, .iconst 0) := by decide +kernel
theorem f_187_50 : zft 187 50 = some (2, .istore 4) := by decide +kernel
theorem f_187_52 : zft 187 52 = some (2, .iload 4) := by decide +kernel
theorem f_187_54 : zft 187 54 = some (1, .aload_n 0) := by decide +kernel
theorem f_187_55 : zft 187 55 = some (3, .getfield 7) := by decide +kernel
theorem f_187_58 : zft 187 58 = some (2, .bipush 121) := by decide +kernel
theorem f_187_60 : zft 187 60 = some (1, .iaload) := by decide +kernel
theorem f_187_61 : zft 187 61 = some (3, .if_icmp .ge 106) := by decide +kernel
theorem f_187_64 : zft 187 64 = some (1, .aload_n 0) := by decide +kernel
theorem f_187_65 : zft 187 65 = some (2, .iload 4) := by decide +kernel
theorem f_187_67 : zft 187 67 = some (1, .iconst 0) := by decide +kernel
theorem f_187_68 : zft 187 68 = some (3, .invokevirtual 85) := by decide +kernel
theorem f_187_71 : zft 187 71 = some (2, .istore 5) := by decide +kernel
theorem f_187_73 : zft 187 73 = some (1, .aload_n 0) := by decide +kernel
theorem f_187_74 : zft 187 74 = some (2, .iload 4) := by decide +kernel
theorem f_187_76 : zft 187 76 = some (1, .iconst 1) := by decide +kernel
theorem f_187_77 : zft 187 77 = some (3, .invokevirtual 85) := by decide +kernel
theorem f_187_80 : zft 187 80 = some (2, .istore 6) := by decide +kernel
theorem f_187_82 : zft 187 82 = some (2, .iload 4) := by decide +kernel
theorem f_187_84 : zft 187 84 = some (1, .iload_n 2) := by decide +kernel
theorem f_187_85 : zft 187 85 = some (3, .if_icmp .eq 38) := by decide +kernel
theorem f_187_88 : zft 187 88 = some (1, .aload_n 0) := by decide +kernel
theorem f_187_89 : zft 187 89 = some (3, .getfield 28) := by decide +kernel
theorem f_187_92 : zft 187 92 = some (2, .iload 5) := by decide +kernel
theorem f_187_94 : zft 187 94 = some (1, .iaload) := by decide +kernel
theorem f_187_95 : zft 187 95 = some (1, .iload_n 3) := by decide +kernel
theorem f_187_96 : zft 187 96 = some (3, .if_icmp .ne 27) := by decide +kernel
theorem f_187_99 : zft 187 99 = some (1, .aload_n 0) := by decide +kernel
theorem f_187_100 : zft 187 100 = some (3, .getfield 28) := by decide +kernel
theorem f_187_103 : zft 187 103 = some (2, .iload 6) := by decide +kernel
theorem f_187_105 : zft 187 105 = some (1, .iaload) := by decide +kernel
theorem f_187_106 : zft 187 106 = some (1, .iconst (-1)) := by decide +kernel
theorem f_187_107 : zft 187 107 = some (3, .if_icmp .ne 16) := by decide +kernel
theorem f_187_110 : zft 187 110 = some (1, .aload_n 0) := by decide +kernel
theorem f_187_111 : zft 187 111 = some (3, .getfield 28) := by decide +kernel
theorem f_187_114 : zft 187 114 = some (2, .iload 6) := by decide +kernel
theorem f_187_116 : zft 187 116 = some (1, .iload_n 3) := by decide +kernel
theorem f_187_117 : zft 187 117 = some (1, .iconst 1) := by decide +kernel
theorem f_187_118 : zft 187 118 = some (1, .iadd) := by decide +kernel
theorem f_187_119 : zft 187 119 = some (1, .iastore) := by decide +kernel
theorem f_187_120 : zft 187 120 = some (3, .goto 41) := by decide +kernel
theorem f_187_123 : zft 187 123 = some (2, .iload 4) := by decide +kernel
theorem f_187_125 : zft 187 125 = some (1, .iload_n 2) := by decide +kernel
theorem f_187_126 : zft 187 126 = some (3, .if_icmp .eq 35) := by decide +kernel
theorem f_187_129 : zft 187 129 = some (1, .aload_n 0) := by decide +kernel
theorem f_187_130 : zft 187 130 = some (3, .getfield 28) := by decide +kernel
theorem f_187_133 : zft 187 133 = some (2, .iload 6) := by decide +kernel
theorem f_187_135 : zft 187 135 = some (1, .iaload) := by decide +kernel
theorem f_187_136 : zft 187 136 = some (1, .iload_n 3) := by decide +kernel
theorem f_187_137 : zft 187 137 = some (3, .if_icmp .ne 24) := by decide +kernel
theorem f_187_140 : zft 187 140 = some (1, .aload_n 0) := by decide +kernel
theorem f_187_141 : zft 187 141 = some (3, .getfield 28) := by decide +kernel
theorem f_187_144 : zft 187 144 = some (2, .iload 5) := by decide +kernel
theorem f_187_146 : zft 187 146 = some (1, .iaload) := by decide +kernel
theorem f_187_147 : zft 187 147 = some (1, .iconst (-1)) := by decide +kernel
theorem f_187_148 : zft 187 148 = some (3, .if_icmp .ne 13) := by decide +kernel
theorem f_187_151 : zft 187 151 = some (1, .aload_n 0) := by decide +kernel
theorem f_187_152 : zft 187 152 = some (3, .getfield 28) := by decide +kernel
theorem f_187_155 : zft 187 155 = some (2, .iload 5) := by decide +kernel
theorem f_187_157 : zft 187 157 = some (1, .iload_n 3) := by decide +kernel
theorem f_187_158 : zft 187 158 = some (1, .iconst 1) := by decide +kernel
theorem f_187_159 : zft 187 159 = some (1, .iadd) := by decide +kernel
theorem f_187_160 : zft 187 160 = some (1, .iastore) := by decide +kernel
theorem f_187_161 : zft 187 161 = some (3, .iinc 4 1) := by decide +kernel
theorem f_187_164 : zft 187 164 = some (3, .goto (-112)) := by decide +kernel
theorem f_187_167 : zft 187 167 = some (3, .iinc 3 1) := by decide +kernel
theorem f_187_170 : zft 187 170 = some (3, .goto (-127)) := by decide +kernel
theorem f_187_173 : zft 187 173 = some (1, .return_) := by decide +kernel
theorem f_188_0 : zft 188 0 = some (1, .aload_n 0) := by decide +kernel
theorem f_188_1 : zft 188 1 = some (1, .aload_n 0) := by decide +kernel
theorem f_188_2 : zft 188 2 = some (3, .getfield 7) := by decide +kernel
theorem f_188_5 : zft 188 5 = some (2, .bipush 122) := by decide +kernel
theorem f_188_7 : zft 188 7 = some (1, .iaload) := by decide +kernel
theorem f_188_8 : zft 188 8 = some (1, .iconst (-1)) := by decide +kernel
theorem f_188_9 : zft 188 9 = some (3, .invokevirtual 154) := by decide +kernel
theorem f_188_12 : zft 188 12 = some (1, .aload_n 0) := by decide +kernel
theorem f_188_13 : zft 188 13 = some (3, .getfield 28) := by decide +kernel
theorem f_188_16 : zft 188 16 = some (1, .iload_n 1) := by decide +kernel
theorem f_188_17 : zft 188 17 = some (1, .iaload) := by decide +kernel
theorem f_188_18 : zft 188 18 = some (1, .ireturn) := by decide +kernel
theorem f_189_0 : zft 189 0 = some (1, .iconst 0) := by decide +kernel
theorem f_189_1 : zft 189 1 = some (1, .istore_n 2) := by decide +kernel
theorem f_189_2 : zft 189 2 = some (1, .iconst 0) := by decide +kernel
theorem f_189_3 : zft 189 3 = some (1, .istore_n 3) := by decide +kernel
theorem f_189_4 : zft 189 4 = some (1, .iload_n 3) := by decide +kernel
theorem f_189_5 : zft 189 5 = some (1, .aload_n 0) := by decide +kernel
theorem f_189_6 : zft 189 6 = some (3, .getfield 7) := by decide +kernel
theorem f_189_9 : zft 189 9 = some (2, .bipush 121) := by decide +kernel
theorem f_189_11 : zft 189 11 = some (1, .iaload) := by decide +kernel
theorem f_189_12 : zft 189 12 = some (3, .if_icmp .ge 37) := by decide +kernel
theorem f_189_15 : zft 189 15 = some (1, .iload_n 2) := by decide +kernel
theorem f_189_16 : zft 189 16 = some (1, .aload_n 0) := by decide +kernel
theorem f_189_17 : zft 189 17 = some (1, .iload_n 3) := by decide +kernel
theorem f_189_18 : zft 189 18 = some (1, .iconst 0) := by decide +kernel
theorem f_189_19 : zft 189 19 = some (3, .invokevirtual 85) := by decide +kernel
theorem f_189_22 : zft 189 22 = some (1, .iload_n 1) := by decide +kernel
theorem f_189_23 : zft 189 23 = some (3, .if_icmp .eq 13) := by decide +kernel
theorem f_189_26 : zft 189 26 = some (1, .aload_n 0) := by decide +kernel
theorem f_189_27 : zft 189 27 = some (1, .iload_n 3) := by decide +kernel
theorem f_189_28 : zft 189 28 = some (1, .iconst 1) := by decide +kernel
theorem f_189_29 : zft 189 29 = some (3, .invokevirtual 85) := by decide +kernel
theorem f_189_32 : zft 189 32 = some (1, .iload_n 1) := by decide +kernel
theorem f_189_33 : zft 189 33 = some (3, .if_icmp .ne 7) := by decide +kernel
theorem f_189_36 : zft 189 36 = some (1, .iconst 1) := by decide +kernel
theorem f_189_37 : zft 189 37 = some (3, .goto 4) := by decide +kernel
theorem f_189_40 : zft 189 40 = some (1, .iconst 0) := by decide +kernel
theorem f_189_41 : zft 189 41 = some (1, .iadd) := by decide +kernel
theorem f_189_42 : zft 189 42 = some (1, .istore_n 2) := by decide +kernel
theorem f_189_43 : zft 189 43 = some (3, .iinc 3 1) := by decide +kernel
theorem f_189_46 : zft 189 46 = some (3, .goto (-42)) := by decide +kernel
theorem f_189_49 : zft 189 49 = some (1, .iload_n 2) := by decide +kernel
theorem f_189_50 : zft 189 50 = some (1, .ireturn) := by decide +kernel
theorem f_190_0 : zft 190 0 = some (1, .aload_n 0) := by decide +kernel
theorem f_190_1 : zft 190 1 = some (1, .iload_n 1) := by decide +kernel
theorem f_190_2 : zft 190 2 = some (3, .invokevirtual 158) := by decide +kernel
theorem f_190_5 : zft 190 5 = some (1, .istore_n 2) := by decide +kernel
theorem f_190_6 : zft 190 6 = some (1, .iload_n 2) := by decide +kernel
theorem f_190_7 : zft 190 7 = some (1, .iconst (-1)) := by decide +kernel
theorem f_190_8 : zft 190 8 = some (3, .if_icmp .ne 7) := by decide +kernel
theorem f_190_11 : zft 190 11 = some (3, .sipush 500) := by decide +kernel
theorem f_190_14 : zft 190 14 = some (1, .ireturn) := by decide +kernel
theorem f_190_15 : zft 190 15 = some (1, .aload_n 0) := by decide +kernel
theorem f_190_16 : zft 190 16 = some (3, .getfield 7) := by decide +kernel
theorem f_190_19 : zft 190 19 = some (2, .bipush 123) := by decide +kernel
theorem f_190_21 : zft 190 21 = some (1, .iaload) := by decide +kernel
theorem f_190_22 : zft 190 22 = some (26, .lookupswitch 51 #[(0, 26), (1, 31)]) := by decide +kernel
theorem f_190_48 : zft 190 48 = some (2, .bipush 10) := by decide +kernel
theorem f_190_50 : zft 190 50 = some (1, .iload_n 2) := by decide +kernel
theorem f_190_51 : zft 190 51 = some (1, .imul) := by decide +kernel
theorem f_190_52 : zft 190 52 = some (1, .ireturn) := by decide +kernel
theorem f_190_53 : zft 190 53 = some (1, .iload_n 2) := by decide +kernel
theorem f_190_54 : zft 190 54 = some (1, .iload_n 2) := by decide +kernel
theorem f_190_55 : zft 190 55 = some (1, .imul) := by decide +kernel
theorem f_190_56 : zft 190 56 = some (1, .aload_n 0) := by decide +kernel
theorem f_190_57 : zft 190 57 = some (1, .iload_n 1) := by decide +kernel
theorem f_190_58 : zft 190 58 = some (1, .iconst 2) := by decide +kernel
theorem f_190_59 : zft 190 59 = some (3, .invokevirtual 62) := by decide +kernel
theorem f_190_62 : zft 190 62 = some (1, .aload_n 0) := by decide +kernel
theorem f_190_63 : zft 190 63 = some (1, .iload_n 1) := by decide +kernel
theorem f_190_64 : zft 190 64 = some (1, .iconst 3) := by decide +kernel
theorem f_190_65 : zft 190 65 = some (3, .invokevirtual 62) := by decide +kernel
theorem f_190_68 : zft 190 68 = some (1, .imul) := by decide +kernel
theorem f_190_69 : zft 190 69 = some (1, .iconst 4) := by decide +kernel
theorem f_190_70 : zft 190 70 = some (1, .idiv) := by decide +kernel
theorem f_190_71 : zft 190 71 = some (1, .iadd) := by decide +kernel
theorem f_190_72 : zft 190 72 = some (1, .ireturn) := by decide +kernel
theorem f_190_73 : zft 190 73 = some (2, .bipush 100) := by decide +kernel
theorem f_190_75 : zft 190 75 = some (2, .bipush 10) := by decide +kernel
theorem f_190_77 : zft 190 77 = some (1, .aload_n 0) := by decide +kernel
theorem f_190_78 : zft 190 78 = some (1, .iload_n 1) := by decide +kernel
theorem f_190_79 : zft 190 79 = some (3, .invokevirtual 161) := by decide +kernel
theorem f_190_82 : zft 190 82 = some (1, .imul) := by decide +kernel
theorem f_190_83 : zft 190 83 = some (1, .isub) := by decide +kernel
theorem f_190_84 : zft 190 84 = some (1, .iload_n 2) := by decide +kernel
theorem f_190_85 : zft 190 85 = some (1, .iadd) := by decide +kernel
theorem f_190_86 : zft 190 86 = some (1, .ireturn) := by decide +kernel
theorem f_191_0 : zft 191 0 = some (1, .iconst 0) := by decide +kernel
theorem f_191_1 : zft 191 1 = some (2, .istore 4) := by decide +kernel
theorem f_191_3 : zft 191 3 = some (1, .iconst 0) := by decide +kernel
theorem f_191_4 : zft 191 4 = some (2, .istore 5) := by decide +kernel
theorem f_191_6 : zft 191 6 = some (2, .iload 5) := by decide +kernel
theorem f_191_8 : zft 191 8 = some (1, .aload_n 0) := by decide +kernel
theorem f_191_9 : zft 191 9 = some (3, .getfield 7) := by decide +kernel
theorem f_191_12 : zft 191 12 = some (2, .bipush 121) := by decide +kernel
theorem f_191_14 : zft 191 14 = some (1, .iaload) := by decide +kernel
theorem f_191_15 : zft 191 15 = some (3, .if_icmp .ge 123) := by decide +kernel
theorem f_191_18 : zft 191 18 = some (1, .aload_n 0) := by decide +kernel
theorem f_191_19 : zft 191 19 = some (2, .iload 5) := by decide +kernel
theorem f_191_21 : zft 191 21 = some (1, .iconst 0) := by decide +kernel
theorem f_191_22 : zft 191 22 = some (3, .invokevirtual 85) := by decide +kernel
theorem f_191_25 : zft 191 25 = some (2, .istore 6) := by decide +kernel
theorem f_191_27 : zft 191 27 = some (1, .aload_n 0) := by decide +kernel
theorem f_191_28 : zft 191 28 = some (2, .iload 5) := by decide +kernel
theorem f_191_30 : zft 191 30 = some (1, .iconst 1) := by decide +kernel
theorem f_191_31 : zft 191 31 = some (3, .invokevirtual 85) := by decide +kernel
theorem f_191_34 : zft 191 34 = some (2, .istore 7) := by decide +kernel
theorem f_191_36 : zft 191 36 = some (1, .aload_n 0) := by decide +kernel
theorem f_191_37 : zft 191 37 = some (2, .iload 5) := by decide +kernel
theorem f_191_39 : zft 191 39 = some (1, .iconst 2) := by decide +kernel
theorem f_191_40 : zft 191 40 = some (3, .invokevirtual 85) := by decide +kernel
theorem f_191_43 : zft 191 43 = some (2, .istore 8) := by decide +kernel
theorem f_191_45 : zft 191 45 = some (2, .iload 6) := by decide +kernel
theorem f_191_47 : zft 191 47 = some (1, .iload_n 1) := by decide +kernel
theorem f_191_48 : zft 191 48 = some (3, .if_icmp .ne 13) := by decide +kernel
theorem f_191_51 : zft 191 51 = some (1, .aload_n 0) := by decide +kernel
theorem f_191_52 : zft 191 52 = some (3, .getfield 34) := by decide +kernel
theorem f_191_55 : zft 191 55 = some (2, .iload 7) := by decide +kernel
theorem f_191_57 : zft 191 57 = some (1, .baload) := by decide +kernel
theorem f_191_58 : zft 191 58 = some (3, .ifCond .ne 19) := by decide +kernel
theorem f_191_61 : zft 191 61 = some (2, .iload 7) := by decide +kernel
theorem f_191_63 : zft 191 63 = some (1, .iload_n 1) := by decide +kernel
theorem f_191_64 : zft 191 64 = some (3, .if_icmp .ne 17) := by decide +kernel
theorem f_191_67 : zft 191 67 = some (1, .aload_n 0) := by decide +kernel
theorem f_191_68 : zft 191 68 = some (3, .getfield 34) := by decide +kernel
theorem f_191_71 : zft 191 71 = some (2, .iload 6) := by decide +kernel
theorem f_191_73 : zft 191 73 = some (1, .baload) := by decide +kernel
theorem f_191_74 : zft 191 74 = some (3, .ifCond .eq 7) := by decide +kernel
theorem f_191_77 : zft 191 77 = some (1, .iconst 1) := by decide +kernel
theorem f_191_78 : zft 191 78 = some (3, .goto 4) := by decide +kernel
theorem f_191_81 : zft 191 81 = some (1, .iconst 0) := by decide +kernel
theorem f_191_82 : zft 191 82 = some (2, .istore 9) := by decide +kernel
theorem f_191_84 : zft 191 84 = some (2, .iload 4) := by decide +kernel
theorem f_191_86 : zft 191 86 = some (3, .ifCond .ne 39) := by decide +kernel
theorem f_191_89 : zft 191 89 = some (2, .iload 9) := by decide +kernel
theorem f_191_91 : zft 191 91 = some (3, .ifCond .eq 38) := by decide +kernel
theorem f_191_94 : zft 191 94 = some (2, .iload 5) := by decide +kernel
theorem f_191_96 : zft 191 96 = some (1, .iload_n 2) := by decide +kernel
theorem f_191_97 : zft 191 97 = some (3, .if_icmp .eq 32) := by decide +kernel
theorem f_191_100 : zft 191 100 = some (2, .iload 8) := by decide +kernel
theorem f_191_102 : zft 191 102 = some (1, .iconst (-1)) := by decide +kernel
theorem f_191_103 : zft 191 103 = some (3, .if_icmp .eq 22) := by decide +kernel
theorem f_191_106 : zft 191 106 = some (2, .iload 8) := by decide +kernel
theorem f_191_108 : zft 191 108 = some (1, .iload_n 3) := by decide +kernel
theorem f_191_109 : zft 191 109 = some (3, .if_icmp .eq 16) := by decide +kernel
theorem f_191_112 : zft 191 112 = some (1, .aload_n 0) := by decide +kernel
theorem f_191_113 : zft 191 113 = some (3, .getfield 164) := by decide +kernel
theorem f_191_116 : zft 191 116 = some (2, .iload 8) := by decide +kernel
theorem f_191_118 : zft 191 118 = some (1, .ishr) := by decide +kernel
theorem f_191_119 : zft 191 119 = some (1, .iconst 1) := by decide +kernel
theorem f_191_120 : zft 191 120 = some (1, .iand) := by decide +kernel
theorem f_191_121 : zft 191 121 = some (1, .iconst 1) := by decide +kernel
theorem f_191_122 : zft 191 122 = some (3, .if_icmp .ne 7) := by decide +kernel
theorem f_191_125 : zft 191 125 = some (1, .iconst 1) := by decide +kernel
theorem f_191_126 : zft 191 126 = some (3, .goto 4) := by decide +kernel
theorem f_191_129 : zft 191 129 = some (1, .iconst 0) := by decide +kernel
theorem f_191_130 : zft 191 130 = some (2, .istore 4) := by decide +kernel
theorem f_191_132 : zft 191 132 = some (3, .iinc 5 1) := by decide +kernel
theorem f_191_135 : zft 191 135 = some (3, .goto (-129)) := by decide +kernel
theorem f_191_138 : zft 191 138 = some (2, .iload 4) := by decide +kernel
theorem f_191_140 : zft 191 140 = some (1, .ireturn) := by decide +kernel
theorem f_192_0 : zft 192 0 = some (1, .aload_n 0) := by decide +kernel
theorem f_192_1 : zft 192 1 = some (3, .getfield 34) := by decide +kernel
theorem f_192_4 : zft 192 4 = some (1, .iload_n 1) := by decide +kernel
theorem f_192_5 : zft 192 5 = some (1, .iconst 1) := by decide +kernel
theorem f_192_6 : zft 192 6 = some (1, .bastore) := by decide +kernel
theorem f_192_7 : zft 192 7 = some (1, .aload_n 0) := by decide +kernel
theorem f_192_8 : zft 192 8 = some (3, .getfield 31) := by decide +kernel
theorem f_192_11 : zft 192 11 = some (1, .aload_n 0) := by decide +kernel
theorem f_192_12 : zft 192 12 = some (3, .getfield 167) := by decide +kernel
theorem f_192_15 : zft 192 15 = some (1, .iload_n 1) := by decide +kernel
theorem f_192_16 : zft 192 16 = some (1, .iastore) := by decide +kernel
theorem f_192_17 : zft 192 17 = some (1, .aload_n 0) := by decide +kernel
theorem f_192_18 : zft 192 18 = some (1, .dup) := by decide +kernel
theorem f_192_19 : zft 192 19 = some (3, .getfield 167) := by decide +kernel
theorem f_192_22 : zft 192 22 = some (1, .iconst 1) := by decide +kernel
theorem f_192_23 : zft 192 23 = some (1, .iadd) := by decide +kernel
theorem f_192_24 : zft 192 24 = some (3, .putfield 167) := by decide +kernel
theorem f_192_27 : zft 192 27 = some (1, .aload_n 0) := by decide +kernel
theorem f_192_28 : zft 192 28 = some (1, .iload_n 1) := by decide +kernel
theorem f_192_29 : zft 192 29 = some (1, .iconst 4) := by decide +kernel
theorem f_192_30 : zft 192 30 = some (3, .invokevirtual 62) := by decide +kernel
theorem f_192_33 : zft 192 33 = some (1, .istore_n 3) := by decide +kernel
theorem f_192_34 : zft 192 34 = some (1, .aload_n 0) := by decide +kernel
theorem f_192_35 : zft 192 35 = some (1, .dup) := by decide +kernel
theorem f_192_36 : zft 192 36 = some (3, .getfield 164) := by decide +kernel
theorem f_192_39 : zft 192 39 = some (1, .iload_n 3) := by decide +kernel
theorem f_192_40 : zft 192 40 = some (1, .iconst (-1)) := by decide +kernel
theorem f_192_41 : zft 192 41 = some (3, .if_icmp .eq 14) := by decide +kernel
theorem f_192_44 : zft 192 44 = some (1, .iload_n 3) := by decide +kernel
theorem f_192_45 : zft 192 45 = some (1, .iload_n 2) := by decide +kernel
theorem f_192_46 : zft 192 46 = some (3, .if_icmp .eq 9) := by decide +kernel
theorem f_192_49 : zft 192 49 = some (1, .iconst 1) := by decide +kernel
theorem f_192_50 : zft 192 50 = some (1, .iload_n 3) := by decide +kernel
theorem f_192_51 : zft 192 51 = some (1, .ishl) := by decide +kernel
theorem f_192_52 : zft 192 52 = some (3, .goto 4) := by decide +kernel
theorem f_192_55 : zft 192 55 = some (1, .iconst 0) := by decide +kernel
theorem f_192_56 : zft 192 56 = some (1, .ior) := by decide +kernel
theorem f_192_57 : zft 192 57 = some (3, .putfield 164) := by decide +kernel
theorem f_192_60 : zft 192 60 = some (1, .return_) := by decide +kernel
theorem f_193_0 : zft 193 0 = some (1, .aload_n 0) := by decide +kernel
theorem f_193_1 : zft 193 1 = some (1, .iconst 0) := by decide +kernel
theorem f_193_2 : zft 193 2 = some (3, .putfield 167) := by decide +kernel
theorem f_193_5 : zft 193 5 = some (1, .aload_n 0) := by decide +kernel
theorem f_193_6 : zft 193 6 = some (1, .iconst 0) := by decide +kernel
theorem f_193_7 : zft 193 7 = some (3, .putfield 164) := by decide +kernel
theorem f_193_10 : zft 193 10 = some (1, .iconst 0) := by decide +kernel
theorem f_193_11 : zft 193 11 = some (2, .istore 4) := by decide +kernel
theorem f_193_13 : zft 193 13 = some (2, .iload 4) := by decide +kernel
theorem f_193_15 : zft 193 15 = some (2, .bipush 12) := by decide +kernel
theorem f_193_17 : zft 193 17 = some (3, .if_icmp .ge 17) := by decide +kernel
theorem f_193_20 : zft 193 20 = some (1, .aload_n 0) := by decide +kernel
theorem f_193_21 : zft 193 21 = some (3, .getfield 34) := by decide +kernel
theorem f_193_24 : zft 193 24 = some (2, .iload 4) := by decide +kernel
theorem f_193_26 : zft 193 26 = some (1, .iconst 0) := by decide +kernel
theorem f_193_27 : zft 193 27 = some (1, .bastore) := by decide +kernel
theorem f_193_28 : zft 193 28 = some (3, .iinc 4 1) := by decide +kernel
theorem f_193_31 : zft 193 31 = some (3, .goto (-18)) := by decide +kernel
theorem f_193_34 : zft 193 34 = some (1, .aload_n 0) := by decide +kernel
theorem f_193_35 : zft 193 35 = some (3, .getfield 7) := by decide +kernel
theorem f_193_38 : zft 193 38 = some (2, .bipush 120) := by decide +kernel
theorem f_193_40 : zft 193 40 = some (1, .iaload) := by decide +kernel
theorem f_193_41 : zft 193 41 = some (3, .ifCond .le 13) := by decide +kernel
theorem f_193_44 : zft 193 44 = some (1, .aload_n 0) := by decide +kernel
theorem f_193_45 : zft 193 45 = some (3, .getfield 7) := by decide +kernel
theorem f_193_48 : zft 193 48 = some (2, .bipush 122) := by decide +kernel
theorem f_193_50 : zft 193 50 = some (1, .iaload) := by decide +kernel
theorem f_193_51 : zft 193 51 = some (3, .goto 4) := by decide +kernel
theorem f_193_54 : zft 193 54 = some (1, .iconst (-1)) := by decide +kernel
theorem f_193_55 : zft 193 55 = some (2, .istore 4) := by decide +kernel
theorem f_193_57 : zft 193 57 = some (2, .iload 4) := by decide +kernel
theorem f_193_59 : zft 193 59 = some (3, .ifCond .lt 83) := by decide +kernel
theorem f_193_62 : zft 193 62 = some (1, .aload_n 0) := by decide +kernel
theorem f_193_63 : zft 193 63 = some (2, .iload 4) := by decide +kernel
theorem f_193_65 : zft 193 65 = some (1, .iload_n 2) := by decide +kernel
theorem f_193_66 : zft 193 66 = some (3, .invokevirtual 170) := by decide +kernel
theorem f_193_69 : zft 193 69 = some (1, .iconst (-1)) := by decide +kernel
theorem f_193_70 : zft 193 70 = some (2, .istore 4) := by decide +kernel
theorem f_193_72 : zft 193 72 = some (1, .iconst 0) := by decide +kernel
theorem f_193_73 : zft 193 73 = some (2, .istore 5) := by decide +kernel
theorem f_193_75 : zft 193 75 = some (2, .iload 5) := by decide +kernel
theorem f_193_77 : zft 193 77 = some (1, .aload_n 0) := by decide +kernel
theorem f_193_78 : zft 193 78 = some (3, .getfield 7) := by decide +kernel
theorem f_193_81 : zft 193 81 = some (2, .bipush 120) := by decide +kernel
theorem f_193_83 : zft 193 83 = some (1, .iaload) := by decide +kernel
theorem f_193_84 : zft 193 84 = some (3, .if_icmp .ge 55) := by decide +kernel
theorem f_193_87 : zft 193 87 = some (1, .aload_n 0) := by decide +kernel
theorem f_193_88 : zft 193 88 = some (3, .getfield 34) := by decide +kernel
theorem f_193_91 : zft 193 91 = some (2, .iload 5) := by decide +kernel
theorem f_193_93 : zft 193 93 = some (1, .baload) := by decide +kernel
theorem f_193_94 : zft 193 94 = some (3, .ifCond .ne 39) := by decide +kernel
theorem f_193_97 : zft 193 97 = some (1, .aload_n 0) := by decide +kernel
theorem f_193_98 : zft 193 98 = some (2, .iload 5) := by decide +kernel
theorem f_193_100 : zft 193 100 = some (1, .iload_n 1) := by decide +kernel
theorem f_193_101 : zft 193 101 = some (1, .iload_n 3) := by decide +kernel
theorem f_193_102 : zft 193 102 = some (3, .invokevirtual 173) := by decide +kernel
theorem f_193_105 : zft 193 105 = some (3, .ifCond .eq 28) := by decide +kernel
theorem f_193_108 : zft 193 108 = some (2, .iload 4) := by decide +kernel
theorem f_193_110 : zft 193 110 = some (1, .iconst (-1)) := by decide +kernel
theorem f_193_111 : zft 193 111 = some (3, .if_icmp .eq 18) := by decide +kernel
theorem f_193_114 : zft 193 114 = some (1, .aload_n 0) := by decide +kernel
theorem f_193_115 : zft 193 115 = some (2, .iload 5) := by decide +kernel
theorem f_193_117 : zft 193 117 = some (3, .invokevirtual 176) := by decide +kernel
theorem f_193_120 : zft 193 120 = some (1, .aload_n 0) := by decide +kernel
theorem f_193_121 : zft 193 121 = some (2, .iload 4) := by decide +kernel
theorem f_193_123 : zft 193 123 = some (3, .invokevirtual 176) := by decide +kernel
theorem f_193_126 : zft 193 126 = some (3, .if_icmp .ge 7) := by decide +kernel
theorem f_193_129 : zft 193 129 = some (2, .iload 5) := by decide +kernel
theorem f_193_131 : zft 193 131 = some (2, .istore 4) := by decide +kernel
theorem f_193_133 : zft 193 133 = some (3, .iinc 5 1) := by decide +kernel
theorem f_193_136 : zft 193 136 = some (3, .goto (-61)) := by decide +kernel
theorem f_193_139 : zft 193 139 = some (3, .goto (-82)) := by decide +kernel
theorem f_193_142 : zft 193 142 = some (1, .return_) := by decide +kernel
theorem f_194_0 : zft 194 0 = some (1, .aload_n 0) := by decide +kernel
theorem f_194_1 : zft 194 1 = some (1, .iconst (-1)) := by decide +kernel
theorem f_194_2 : zft 194 2 = some (1, .iconst (-1)) := by decide +kernel
theorem f_194_3 : zft 194 3 = some (1, .iconst (-1)) := by decide +kernel
theorem f_194_4 : zft 194 4 = some (3, .invokevirtual 179) := by decide +kernel
theorem f_194_7 : zft 194 7 = some (1, .return_) := by decide +kernel
theorem f_195_0 : zft 195 0 = some (1, .iconst 0) := by decide +kernel
theorem f_195_1 : zft 195 1 = some (1, .istore_n 2) := by decide +kernel
theorem f_195_2 : zft 195 2 = some (1, .aload_n 0) := by decide +kernel
theorem f_195_3 : zft 195 3 = some (1, .aload_n 0) := by decide +kernel
theorem f_195_4 : zft 195 4 = some (3, .getfield 7) := by decide +kernel
theorem f_195_7 : zft 195 7 = some (2, .bipush 122) := by decide +kernel
theorem f_195_9 : zft 195 9 = some (1, .iaload) := by decide +kernel
theorem f_195_10 : zft 195 10 = some (1, .iconst (-1)) := by decide +kernel
theorem f_195_11 : zft 195 11 = some (3, .invokevirtual 154) := by decide +kernel
theorem f_195_14 : zft 195 14 = some (1, .iconst 0) := by decide +kernel
theorem f_195_15 : zft 195 15 = some (1, .istore_n 3) := by decide +kernel
theorem f_195_16 : zft 195 16 = some (1, .iload_n 3) := by decide +kernel
theorem f_195_17 : zft 195 17 = some (1, .aload_n 0) := by decide +kernel
theorem f_195_18 : zft 195 18 = some (3, .getfield 7) := by decide +kernel
theorem f_195_21 : zft 195 21 = some (2, .bipush 120) := by decide +kernel
theorem f_195_23 : zft 195 23 = some (1, .iaload) := by decide +kernel
theorem f_195_24 : zft 195 24 = some (3, .if_icmp .ge 26) := by decide +kernel
theorem f_195_27 : zft 195 27 = some (1, .iload_n 2) := by decide +kernel
theorem f_195_28 : zft 195 28 = some (1, .aload_n 0) := by decide +kernel
theorem f_195_29 : zft 195 29 = some (3, .getfield 28) := by decide +kernel
theorem f_195_32 : zft 195 32 = some (1, .iload_n 3) := by decide +kernel
theorem f_195_33 : zft 195 33 = some (1, .iaload) := by decide +kernel
theorem f_195_34 : zft 195 34 = some (3, .ifCond .lt 7) := by decide +kernel
theorem f_195_37 : zft 195 37 = some (1, .iconst 1) := by decide +kernel
theorem f_195_38 : zft 195 38 = some (3, .goto 4) := by decide +kernel
theorem f_195_41 : zft 195 41 = some (1, .iconst 0) := by decide +kernel
theorem f_195_42 : zft 195 42 = some (1, .iadd) := by decide +kernel
theorem f_195_43 : zft 195 43 = some (1, .istore_n 2) := by decide +kernel
theorem f_195_44 : zft 195 44 = some (3, .iinc 3 1) := by decide +kernel
theorem f_195_47 : zft 195 47 = some (3, .goto (-31)) := by decide +kernel
theorem f_195_50 : zft 195 50 = some (1, .aload_n 0) := by decide +kernel
theorem f_195_51 : zft 195 51 = some (1, .aload_n 0) := by decide +kernel
theorem f_195_52 : zft 195 52 = some (3, .getfield 7) := by decide +kernel
theorem f_195_55 : zft 195 55 = some (2, .bipush 122) := by decide +kernel
theorem f_195_57 : zft 195 57 = some (1, .iaload) := by decide +kernel
theorem f_195_58 : zft 195 58 = some (1, .iload_n 1) := by decide +kernel
theorem f_195_59 : zft 195 59 = some (3, .invokevirtual 154) := by decide +kernel
theorem f_195_62 : zft 195 62 = some (1, .iconst 0) := by decide +kernel
theorem f_195_63 : zft 195 63 = some (1, .istore_n 3) := by decide +kernel
theorem f_195_64 : zft 195 64 = some (1, .iload_n 3) := by decide +kernel
theorem f_195_65 : zft 195 65 = some (1, .aload_n 0) := by decide +kernel
theorem f_195_66 : zft 195 66 = some (3, .getfield 7) := by decide +kernel
theorem f_195_69 : zft 195 69 = some (2, .bipush 120) := by decide +kernel
theorem f_195_71 : zft 195 71 = some (1, .iaload) := by decide +kernel
theorem f_195_72 : zft 195 72 = some (3, .if_icmp .ge 26) := by decide +kernel
theorem f_195_75 : zft 195 75 = some (1, .iload_n 2) := by decide +kernel
theorem f_195_76 : zft 195 76 = some (1, .aload_n 0) := by decide +kernel
theorem f_195_77 : zft 195 77 = some (3, .getfield 28) := by decide +kernel
theorem f_195_80 : zft 195 80 = some (1, .iload_n 3) := by decide +kernel
theorem f_195_81 : zft 195 81 = some (1, .iaload) := by decide +kernel
theorem f_195_82 : zft 195 82 = some (3, .ifCond .lt 7) := by decide +kernel
theorem f_195_85 : zft 195 85 = some (1, .iconst 1) := by decide +kernel
theorem f_195_86 : zft 195 86 = some (3, .goto 4) := by decide +kernel
theorem f_195_89 : zft 195 89 = some (1, .iconst 0) := by decide +kernel
theorem f_195_90 : zft 195 90 = some (1, .isub) := by decide +kernel
theorem f_195_91 : zft 195 91 = some (1, .istore_n 2) := by decide +kernel
theorem f_195_92 : zft 195 92 = some (3, .iinc 3 1) := by decide +kernel
theorem f_195_95 : zft 195 95 = some (3, .goto (-31)) := by decide +kernel
theorem f_195_98 : zft 195 98 = some (1, .iload_n 2) := by decide +kernel
theorem f_195_99 : zft 195 99 = some (1, .ireturn) := by decide +kernel
theorem f_196_0 : zft 196 0 = some (1, .iconst 0) := by decide +kernel
theorem f_196_1 : zft 196 1 = some (1, .istore_n 1) := by decide +kernel
theorem f_196_2 : zft 196 2 = some (1, .iconst 0) := by decide +kernel
theorem f_196_3 : zft 196 3 = some (1, .istore_n 2) := by decide +kernel
theorem f_196_4 : zft 196 4 = some (1, .iload_n 2) := by decide +kernel
theorem f_196_5 : zft 196 5 = some (1, .aload_n 0) := by decide +kernel
theorem f_196_6 : zft 196 6 = some (3, .getfield 7) := by decide +kernel
theorem f_196_9 : zft 196 9 = some (2, .bipush 121) := by decide +kernel
theorem f_196_11 : zft 196 11 = some (1, .iaload) := by decide +kernel
theorem f_196_12 : zft 196 12 = some (3, .if_icmp .ge 33) := by decide +kernel
theorem f_196_15 : zft 196 15 = some (1, .iload_n 1) := by decide +kernel
theorem f_196_16 : zft 196 16 = some (1, .aload_n 0) := by decide +kernel
theorem f_196_17 : zft 196 17 = some (1, .iload_n 2) := by decide +kernel
theorem f_196_18 : zft 196 18 = some (1, .iconst 2) := by decide +kernel
theorem f_196_19 : zft 196 19 = some (3, .invokevirtual 85) := by decide +kernel
theorem f_196_22 : zft 196 22 = some (3, .ifCond .lt 14) := by decide +kernel
theorem f_196_25 : zft 196 25 = some (1, .iconst 1) := by decide +kernel
theorem f_196_26 : zft 196 26 = some (1, .aload_n 0) := by decide +kernel
theorem f_196_27 : zft 196 27 = some (1, .iload_n 2) := by decide +kernel
theorem f_196_28 : zft 196 28 = some (1, .iconst 2) := by decide +kernel
theorem f_196_29 : zft 196 29 = some (3, .invokevirtual 85) := by decide +kernel
theorem f_196_32 : zft 196 32 = some (1, .ishl) := by decide +kernel
theorem f_196_33 : zft 196 33 = some (3, .goto 4) := by decide +kernel
theorem f_196_36 : zft 196 36 = some (1, .iconst 0) := by decide +kernel
theorem f_196_37 : zft 196 37 = some (1, .ior) := by decide +kernel
theorem f_196_38 : zft 196 38 = some (1, .istore_n 1) := by decide +kernel
theorem f_196_39 : zft 196 39 = some (3, .iinc 2 1) := by decide +kernel
theorem f_196_42 : zft 196 42 = some (3, .goto (-38)) := by decide +kernel
theorem f_196_45 : zft 196 45 = some (1, .iconst 0) := by decide +kernel
theorem f_196_46 : zft 196 46 = some (1, .istore_n 2) := by decide +kernel
theorem f_196_47 : zft 196 47 = some (1, .iload_n 2) := by decide +kernel
theorem f_196_48 : zft 196 48 = some (1, .aload_n 0) := by decide +kernel
theorem f_196_49 : zft 196 49 = some (3, .getfield 7) := by decide +kernel
theorem f_196_52 : zft 196 52 = some (2, .bipush 120) := by decide +kernel
theorem f_196_54 : zft 196 54 = some (1, .iaload) := by decide +kernel
theorem f_196_55 : zft 196 55 = some (3, .if_icmp .ge 33) := by decide +kernel
theorem f_196_58 : zft 196 58 = some (1, .iload_n 1) := by decide +kernel
theorem f_196_59 : zft 196 59 = some (1, .aload_n 0) := by decide +kernel
theorem f_196_60 : zft 196 60 = some (1, .iload_n 2) := by decide +kernel
theorem f_196_61 : zft 196 61 = some (1, .iconst 4) := by decide +kernel
theorem f_196_62 : zft 196 62 = some (3, .invokevirtual 62) := by decide +kernel
theorem f_196_65 : zft 196 65 = some (3, .ifCond .lt 14) := by decide +kernel
theorem f_196_68 : zft 196 68 = some (1, .iconst 1) := by decide +kernel
theorem f_196_69 : zft 196 69 = some (1, .aload_n 0) := by decide +kernel
theorem f_196_70 : zft 196 70 = some (1, .iload_n 2) := by decide +kernel
theorem f_196_71 : zft 196 71 = some (1, .iconst 4) := by decide +kernel
theorem f_196_72 : zft 196 72 = some (3, .invokevirtual 62) := by decide +kernel
theorem f_196_75 : zft 196 75 = some (1, .ishl) := by decide +kernel
theorem f_196_76 : zft 196 76 = some (3, .goto 4) := by decide +kernel
theorem f_196_79 : zft 196 79 = some (1, .iconst 0) := by decide +kernel
theorem f_196_80 : zft 196 80 = some (1, .ior) := by decide +kernel
theorem f_196_81 : zft 196 81 = some (1, .istore_n 1) := by decide +kernel
theorem f_196_82 : zft 196 82 = some (3, .iinc 2 1) := by decide +kernel
theorem f_196_85 : zft 196 85 = some (3, .goto (-38)) := by decide +kernel
theorem f_196_88 : zft 196 88 = some (1, .iload_n 1) := by decide +kernel
theorem f_196_89 : zft 196 89 = some (1, .ireturn) := by decide +kernel
theorem f_197_0 : zft 197 0 = some (1, .iconst (-1)) := by decide +kernel
theorem f_197_1 : zft 197 1 = some (1, .istore_n 1) := by decide +kernel
theorem f_197_2 : zft 197 2 = some (1, .iconst 0) := by decide +kernel
theorem f_197_3 : zft 197 3 = some (1, .istore_n 2) := by decide +kernel
theorem f_197_4 : zft 197 4 = some (1, .iload_n 2) := by decide +kernel
theorem f_197_5 : zft 197 5 = some (1, .aload_n 0) := by decide +kernel
theorem f_197_6 : zft 197 6 = some (3, .getfield 7) := by decide +kernel
theorem f_197_9 : zft 197 9 = some (2, .bipush 121) := by decide +kernel
theorem f_197_11 : zft 197 11 = some (1, .iaload) := by decide +kernel
theorem f_197_12 : zft 197 12 = some (3, .if_icmp .ge 71) := by decide +kernel
theorem f_197_15 : zft 197 15 = some (1, .aload_n 0) := by decide +kernel
theorem f_197_16 : zft 197 16 = some (1, .iload_n 2) := by decide +kernel
theorem f_197_17 : zft 197 17 = some (1, .iconst 2) := by decide +kernel
theorem f_197_18 : zft 197 18 = some (3, .invokevirtual 85) := by decide +kernel
theorem f_197_21 : zft 197 21 = some (1, .iconst (-1)) := by decide +kernel
theorem f_197_22 : zft 197 22 = some (3, .if_icmp .ne 55) := by decide +kernel
theorem f_197_25 : zft 197 25 = some (1, .aload_n 0) := by decide +kernel
theorem f_197_26 : zft 197 26 = some (1, .iload_n 2) := by decide +kernel
theorem f_197_27 : zft 197 27 = some (3, .invokevirtual 182) := by decide +kernel
theorem f_197_30 : zft 197 30 = some (3, .ifCond .le 47) := by decide +kernel
theorem f_197_33 : zft 197 33 = some (1, .iload_n 1) := by decide +kernel
theorem f_197_34 : zft 197 34 = some (1, .iconst (-1)) := by decide +kernel
theorem f_197_35 : zft 197 35 = some (3, .if_icmp .eq 40) := by decide +kernel
theorem f_197_38 : zft 197 38 = some (1, .iconst 2) := by decide +kernel
theorem f_197_39 : zft 197 39 = some (1, .aload_n 0) := by decide +kernel
theorem f_197_40 : zft 197 40 = some (1, .iload_n 2) := by decide +kernel
theorem f_197_41 : zft 197 41 = some (3, .invokevirtual 182) := by decide +kernel
theorem f_197_44 : zft 197 44 = some (1, .imul) := by decide +kernel
theorem f_197_45 : zft 197 45 = some (1, .aload_n 0) := by decide +kernel
theorem f_197_46 : zft 197 46 = some (3, .getfield 7) := by decide +kernel
theorem f_197_49 : zft 197 49 = some (2, .bipush 120) := by decide +kernel
theorem f_197_51 : zft 197 51 = some (1, .iaload) := by decide +kernel
theorem f_197_52 : zft 197 52 = some (3, .invokestatic 70) := by decide +kernel
theorem f_197_55 : zft 197 55 = some (1, .iconst 2) := by decide +kernel
theorem f_197_56 : zft 197 56 = some (1, .aload_n 0) := by decide +kernel
theorem f_197_57 : zft 197 57 = some (1, .iload_n 1) := by decide +kernel
theorem f_197_58 : zft 197 58 = some (3, .invokevirtual 182) := by decide +kernel
theorem f_197_61 : zft 197 61 = some (1, .imul) := by decide +kernel
theorem f_197_62 : zft 197 62 = some (1, .aload_n 0) := by decide +kernel
theorem f_197_63 : zft 197 63 = some (3, .getfield 7) := by decide +kernel
theorem f_197_66 : zft 197 66 = some (2, .bipush 120) := by decide +kernel
theorem f_197_68 : zft 197 68 = some (1, .iaload) := by decide +kernel
theorem f_197_69 : zft 197 69 = some (3, .invokestatic 70) := by decide +kernel
theorem f_197_72 : zft 197 72 = some (3, .if_icmp .ge 5) := by decide +kernel
theorem f_197_75 : zft 197 75 = some (1, .iload_n 2) := by decide +kernel
theorem f_197_76 : zft 197 76 = some (1, .istore_n 1) := by decide +kernel
theorem f_197_77 : zft 197 77 = some (3, .iinc 2 1) := by decide +kernel
theorem f_197_80 : zft 197 80 = some (3, .goto (-76)) := by decide +kernel
theorem f_197_83 : zft 197 83 = some (1, .iload_n 1) := by decide +kernel
theorem f_197_84 : zft 197 84 = some (1, .iconst (-1)) := by decide +kernel
theorem f_197_85 : zft 197 85 = some (3, .if_icmp .ne 6) := by decide +kernel
theorem f_197_88 : zft 197 88 = some (2, .bipush (-104)) := by decide +kernel
theorem f_197_90 : zft 197 90 = some (1, .ireturn) := by decide +kernel
theorem f_197_91 : zft 197 91 = some (1, .iconst 0) := by decide +kernel
theorem f_197_92 : zft 197 92 = some (1, .istore_n 2) := by decide +kernel
theorem f_197_93 : zft 197 93 = some (1, .iload_n 2) := by decide +kernel
theorem f_197_94 : zft 197 94 = some (2, .bipush 6) := by decide +kernel
theorem f_197_96 : zft 197 96 = some (3, .if_icmp .ge 21) := by decide +kernel
theorem f_197_99 : zft 197 99 = some (1, .aload_n 0) := by decide +kernel
theorem f_197_100 : zft 197 100 = some (3, .invokevirtual 185) := by decide +kernel
theorem f_197_103 : zft 197 103 = some (1, .iload_n 2) := by decide +kernel
theorem f_197_104 : zft 197 104 = some (1, .ishr) := by decide +kernel
theorem f_197_105 : zft 197 105 = some (1, .iconst 1) := by decide +kernel
theorem f_197_106 : zft 197 106 = some (1, .iand) := by decide +kernel
theorem f_197_107 : zft 197 107 = some (1, .iconst 1) := by decide +kernel
theorem f_197_108 : zft 197 108 = some (3, .if_icmp .ne 9) := by decide +kernel
theorem f_197_111 : zft 197 111 = some (3, .iinc 2 1) := by decide +kernel
theorem f_197_114 : zft 197 114 = some (3, .goto (-21)) := by decide +kernel
theorem f_197_117 : zft 197 117 = some (1, .iload_n 2) := by decide +kernel
theorem f_197_118 : zft 197 118 = some (2, .bipush 6) := by decide +kernel
theorem f_197_120 : zft 197 120 = some (3, .if_icmp .ne 6) := by decide +kernel
theorem f_197_123 : zft 197 123 = some (2, .bipush (-103)) := by decide +kernel
theorem f_197_125 : zft 197 125 = some (1, .ireturn) := by decide +kernel
theorem f_197_126 : zft 197 126 = some (1, .aload_n 0) := by decide +kernel
theorem f_197_127 : zft 197 127 = some (1, .iload_n 1) := by decide +kernel
theorem f_197_128 : zft 197 128 = some (1, .iconst (-1)) := by decide +kernel
theorem f_197_129 : zft 197 129 = some (1, .iconst (-1)) := by decide +kernel
theorem f_197_130 : zft 197 130 = some (3, .invokevirtual 179) := by decide +kernel
theorem f_197_133 : zft 197 133 = some (1, .iconst (-1)) := by decide +kernel
theorem f_197_134 : zft 197 134 = some (1, .istore_n 3) := by decide +kernel
theorem f_197_135 : zft 197 135 = some (1, .iconst 0) := by decide +kernel
theorem f_197_136 : zft 197 136 = some (2, .istore 4) := by decide +kernel
theorem f_197_138 : zft 197 138 = some (2, .iload 4) := by decide +kernel
theorem f_197_140 : zft 197 140 = some (1, .aload_n 0) := by decide +kernel
theorem f_197_141 : zft 197 141 = some (3, .getfield 7) := by decide +kernel
theorem f_197_144 : zft 197 144 = some (2, .bipush 120) := by decide +kernel
theorem f_197_146 : zft 197 146 = some (1, .iaload) := by decide +kernel
theorem f_197_147 : zft 197 147 = some (3, .if_icmp .ge 52) := by decide +kernel
theorem f_197_150 : zft 197 150 = some (1, .aload_n 0) := by decide +kernel
theorem f_197_151 : zft 197 151 = some (3, .getfield 34) := by decide +kernel
theorem f_197_154 : zft 197 154 = some (2, .iload 4) := by decide +kernel
theorem f_197_156 : zft 197 156 = some (1, .baload) := by decide +kernel
theorem f_197_157 : zft 197 157 = some (3, .ifCond .eq 36) := by decide +kernel
theorem f_197_160 : zft 197 160 = some (1, .aload_n 0) := by decide +kernel
theorem f_197_161 : zft 197 161 = some (2, .iload 4) := by decide +kernel
theorem f_197_163 : zft 197 163 = some (1, .iconst 4) := by decide +kernel
theorem f_197_164 : zft 197 164 = some (3, .invokevirtual 62) := by decide +kernel
theorem f_197_167 : zft 197 167 = some (1, .iconst (-1)) := by decide +kernel
theorem f_197_168 : zft 197 168 = some (3, .if_icmp .ne 25) := by decide +kernel
theorem f_197_171 : zft 197 171 = some (1, .iload_n 3) := by decide +kernel
theorem f_197_172 : zft 197 172 = some (1, .iconst (-1)) := by decide +kernel
theorem f_197_173 : zft 197 173 = some (3, .if_icmp .eq 17) := by decide +kernel
theorem f_197_176 : zft 197 176 = some (1, .aload_n 0) := by decide +kernel
theorem f_197_177 : zft 197 177 = some (2, .iload 4) := by decide +kernel
theorem f_197_179 : zft 197 179 = some (3, .invokevirtual 158) := by decide +kernel
theorem f_197_182 : zft 197 182 = some (1, .aload_n 0) := by decide +kernel
theorem f_197_183 : zft 197 183 = some (1, .iload_n 3) := by decide +kernel
theorem f_197_184 : zft 197 184 = some (3, .invokevirtual 158) := by decide +kernel
theorem f_197_187 : zft 197 187 = some (3, .if_icmp .le 6) := by decide +kernel
theorem f_197_190 : zft 197 190 = some (2, .iload 4) := by decide +kernel
theorem f_197_192 : zft 197 192 = some (1, .istore_n 3) := by decide +kernel
theorem f_197_193 : zft 197 193 = some (3, .iinc 4 1) := by decide +kernel
theorem f_197_196 : zft 197 196 = some (3, .goto (-58)) := by decide +kernel
theorem f_197_199 : zft 197 199 = some (1, .iload_n 3) := by decide +kernel
theorem f_197_200 : zft 197 200 = some (1, .iconst (-1)) := by decide +kernel
theorem f_197_201 : zft 197 201 = some (3, .if_icmp .ne 6) := by decide +kernel
theorem f_197_204 : zft 197 204 = some (2, .bipush (-105)) := by decide +kernel
theorem f_197_206 : zft 197 206 = some (1, .ireturn) := by decide +kernel
theorem f_197_207 : zft 197 207 = some (1, .aload_n 0) := by decide +kernel
theorem f_197_208 : zft 197 208 = some (3, .invokevirtual 101) := by decide +kernel
theorem f_197_211 : zft 197 211 = some (1, .aload_n 0) := by decide +kernel
theorem f_197_212 : zft 197 212 = some (1, .iload_n 1) := by decide +kernel
theorem f_197_213 : zft 197 213 = some (1, .iload_n 2) := by decide +kernel
theorem f_197_214 : zft 197 214 = some (3, .invokevirtual 114) := by decide +kernel
theorem f_197_217 : zft 197 217 = some (2, .istore 4) := by decide +kernel
theorem f_197_219 : zft 197 219 = some (1, .aload_n 0) := by decide +kernel
theorem f_197_220 : zft 197 220 = some (1, .iload_n 3) := by decide +kernel
theorem f_197_221 : zft 197 221 = some (1, .iload_n 2) := by decide +kernel
theorem f_197_222 : zft 197 222 = some (3, .invokevirtual 117) := by decide +kernel
theorem f_197_225 : zft 197 225 = some (2, .istore 4) := by decide +kernel
theorem f_197_227 : zft 197 227 = some (1, .aload_n 0) := by decide +kernel
theorem f_197_228 : zft 197 228 = some (3, .invokevirtual 79) := by decide +kernel
theorem f_197_231 : zft 197 231 = some (1, .iload_n 1) := by decide +kernel
theorem f_197_232 : zft 197 232 = some (1, .ireturn) := by decide +kernel
theorem f_198_0 : zft 198 0 = some (1, .iload_n 1) := by decide +kernel
theorem f_198_1 : zft 198 1 = some (1, .iconst 0) := by decide +kernel
theorem f_198_2 : zft 198 2 = some (1, .iconst 2) := by decide +kernel
theorem f_198_3 : zft 198 3 = some (3, .invokestatic 58) := by decide +kernel
theorem f_198_6 : zft 198 6 = some (3, .ifCond .ne 6) := by decide +kernel
theorem f_198_9 : zft 198 9 = some (2, .bipush (-102)) := by decide +kernel
theorem f_198_11 : zft 198 11 = some (1, .ireturn) := by decide +kernel
theorem f_198_12 : zft 198 12 = some (1, .aload_n 0) := by decide +kernel
theorem f_198_13 : zft 198 13 = some (3, .invokevirtual 101) := by decide +kernel
theorem f_198_16 : zft 198 16 = some (1, .aload_n 0) := by decide +kernel
theorem f_198_17 : zft 198 17 = some (3, .invokevirtual 79) := by decide +kernel
theorem f_198_20 : zft 198 20 = some (1, .aload_n 0) := by decide +kernel
theorem f_198_21 : zft 198 21 = some (3, .getfield 7) := by decide +kernel
theorem f_198_24 : zft 198 24 = some (2, .bipush 123) := by decide +kernel
theorem f_198_26 : zft 198 26 = some (1, .iaload) := by decide +kernel
theorem f_198_27 : zft 198 27 = some (1, .istore_n 2) := by decide +kernel
theorem f_198_28 : zft 198 28 = some (1, .aload_n 0) := by decide +kernel
theorem f_198_29 : zft 198 29 = some (3, .getfield 7) := by decide +kernel
theorem f_198_32 : zft 198 32 = some (2, .bipush 123) := by decide +kernel
theorem f_198_34 : zft 198 34 = some (1, .iload_n 1) := by decide +kernel
theorem f_198_35 : zft 198 35 = some (1, .iastore) := by decide +kernel
theorem f_198_36 : zft 198 36 = some (1, .iload_n 2) := by decide +kernel
theorem f_198_37 : zft 198 37 = some (1, .ireturn) := by decide +kernel
theorem f_199_0 : zft 199 0 = some (1, .iconst 0) := by decide +kernel
theorem f_199_1 : zft 199 1 = some (1, .istore_n 2) := by decide +kernel
theorem f_199_2 : zft 199 2 = some (2, .bipush 24) := by decide +kernel
theorem f_199_4 : zft 199 4 = some (1, .istore_n 3) := by decide +kernel
theorem f_199_5 : zft 199 5 = some (1, .iload_n 3) := by decide +kernel
theorem f_199_6 : zft 199 6 = some (3, .ifCond .lt 51) := by decide +kernel
theorem f_199_9 : zft 199 9 = some (1, .iload_n 1) := by decide +kernel
theorem f_199_10 : zft 199 10 = some (1, .iload_n 3) := by decide +kernel
theorem f_199_11 : zft 199 11 = some (1, .iushr) := by decide +kernel
theorem f_199_12 : zft 199 12 = some (3, .sipush 255) := by decide +kernel
theorem f_199_15 : zft 199 15 = some (1, .iand) := by decide +kernel
theorem f_199_16 : zft 199 16 = some (2, .istore 4) := by decide +kernel
theorem f_199_18 : zft 199 18 = some (2, .iload 4) := by decide +kernel
theorem f_199_20 : zft 199 20 = some (3, .ifCond .eq 18) := by decide +kernel
theorem f_199_23 : zft 199 23 = some (2, .iload 4) := by decide +kernel
theorem f_199_25 : zft 199 25 = some (2, .bipush 33) := by decide +kernel
theorem f_199_27 : zft 199 27 = some (2, .bipush 126) := by decide +kernel
theorem f_199_29 : zft 199 29 = some (3, .invokestatic 58) := by decide +kernel
theorem f_199_32 : zft 199 32 = some (3, .ifCond .ne 6) := by decide +kernel
theorem f_199_35 : zft 199 35 = some (2, .bipush (-102)) := by decide +kernel
theorem f_199_37 : zft 199 37 = some (1, .ireturn) := by decide +kernel
theorem f_199_38 : zft 199 38 = some (1, .iload_n 2) := by decide +kernel
theorem f_199_39 : zft 199 39 = some (2, .iload 4) := by decide +kernel
theorem f_199_41 : zft 199 41 = some (3, .ifCond .eq 7) := by decide +kernel
theorem f_199_44 : zft 199 44 = some (1, .iconst 1) := by decide +kernel
theorem f_199_45 : zft 199 45 = some (3, .goto 4) := by decide +kernel
theorem f_199_48 : zft 199 48 = some (1, .iconst 0) := by decide +kernel
theorem f_199_49 : zft 199 49 = some (1, .iadd) := by decide +kernel
theorem f_199_50 : zft 199 50 = some (1, .istore_n 2) := by decide +kernel
theorem f_199_51 : zft 199 51 = some (3, .iinc 3 (-8)) := by decide +kernel
theorem f_199_54 : zft 199 54 = some (3, .goto (-49)) := by decide +kernel
theorem f_199_57 : zft 199 57 = some (1, .aload_n 0) := by decide +kernel
theorem f_199_58 : zft 199 58 = some (3, .getfield 189) := by decide +kernel
theorem f_199_61 : zft 199 61 = some (1, .iload_n 2) := by decide +kernel
theorem f_199_62 : zft 199 62 = some (1, .iadd) := by decide +kernel
theorem f_199_63 : zft 199 63 = some (2, .bipush 60) := by decide +kernel
theorem f_199_65 : zft 199 65 = some (3, .if_icmp .le 6) := by decide +kernel
theorem f_199_68 : zft 199 68 = some (2, .bipush (-103)) := by decide +kernel
theorem f_199_70 : zft 199 70 = some (1, .ireturn) := by decide +kernel
theorem f_199_71 : zft 199 71 = some (2, .bipush 24) := by decide +kernel
theorem f_199_73 : zft 199 73 = some (1, .istore_n 3) := by decide +kernel
theorem f_199_74 : zft 199 74 = some (1, .iload_n 3) := by decide +kernel
theorem f_199_75 : zft 199 75 = some (3, .ifCond .lt 45) := by decide +kernel
theorem f_199_78 : zft 199 78 = some (1, .iload_n 1) := by decide +kernel
theorem f_199_79 : zft 199 79 = some (1, .iload_n 3) := by decide +kernel
theorem f_199_80 : zft 199 80 = some (1, .iushr) := by decide +kernel
theorem f_199_81 : zft 199 81 = some (3, .sipush 255) := by decide +kernel
theorem f_199_84 : zft 199 84 = some (1, .iand) := by decide +kernel
theorem f_199_85 : zft 199 85 = some (2, .istore 4) := by decide +kernel
theorem f_199_87 : zft 199 87 = some (2, .iload 4) := by decide +kernel
theorem f_199_89 : zft 199 89 = some (3, .ifCond .eq 25) := by decide +kernel
theorem f_199_92 : zft 199 92 = some (1, .aload_n 0) := by decide +kernel
theorem f_199_93 : zft 199 93 = some (3, .getfield 38) := by decide +kernel
theorem f_199_96 : zft 199 96 = some (1, .aload_n 0) := by decide +kernel
theorem f_199_97 : zft 199 97 = some (3, .getfield 189) := by decide +kernel
theorem f_199_100 : zft 199 100 = some (2, .iload 4) := by decide +kernel
theorem f_199_102 : zft 199 102 = some (1, .i2c) := by decide +kernel
theorem f_199_103 : zft 199 103 = some (1, .castore) := by decide +kernel
theorem f_199_104 : zft 199 104 = some (1, .aload_n 0) := by decide +kernel
theorem f_199_105 : zft 199 105 = some (1, .dup) := by decide +kernel
theorem f_199_106 : zft 199 106 = some (3, .getfield 189) := by decide +kernel
theorem f_199_109 : zft 199 109 = some (1, .iconst 1) := by decide +kernel
theorem f_199_110 : zft 199 110 = some (1, .iadd) := by decide +kernel
theorem f_199_111 : zft 199 111 = some (3, .putfield 189) := by decide +kernel
theorem f_199_114 : zft 199 114 = some (3, .iinc 3 (-8)) := by decide +kernel
theorem f_199_117 : zft 199 117 = some (3, .goto (-43)) := by decide +kernel
theorem f_199_120 : zft 199 120 = some (1, .aload_n 0) := by decide +kernel
theorem f_199_121 : zft 199 121 = some (3, .getfield 189) := by decide +kernel
theorem f_199_124 : zft 199 124 = some (1, .ireturn) := by decide +kernel
theorem f_200_0 : zft 200 0 = some (1, .aload_n 0) := by decide +kernel
theorem f_200_1 : zft 200 1 = some (3, .getfield 192) := by decide +kernel
theorem f_200_4 : zft 200 4 = some (1, .aload_n 0) := by decide +kernel
theorem f_200_5 : zft 200 5 = some (3, .getfield 189) := by decide +kernel
theorem f_200_8 : zft 200 8 = some (3, .if_icmp .ge 16) := by decide +kernel
theorem f_200_11 : zft 200 11 = some (1, .aload_n 0) := by decide +kernel
theorem f_200_12 : zft 200 12 = some (3, .getfield 38) := by decide +kernel
theorem f_200_15 : zft 200 15 = some (1, .aload_n 0) := by decide +kernel
theorem f_200_16 : zft 200 16 = some (3, .getfield 192) := by decide +kernel
theorem f_200_19 : zft 200 19 = some (1, .caload) := by decide +kernel
theorem f_200_20 : zft 200 20 = some (1, .iload_n 1) := by decide +kernel
theorem f_200_21 : zft 200 21 = some (3, .if_icmp .eq 5) := by decide +kernel
theorem f_200_24 : zft 200 24 = some (1, .iconst 0) := by decide +kernel
theorem f_200_25 : zft 200 25 = some (1, .ireturn) := by decide +kernel
theorem f_200_26 : zft 200 26 = some (1, .aload_n 0) := by decide +kernel
theorem f_200_27 : zft 200 27 = some (1, .dup) := by decide +kernel
theorem f_200_28 : zft 200 28 = some (3, .getfield 192) := by decide +kernel
theorem f_200_31 : zft 200 31 = some (1, .iconst 1) := by decide +kernel
theorem f_200_32 : zft 200 32 = some (1, .iadd) := by decide +kernel
theorem f_200_33 : zft 200 33 = some (3, .putfield 192) := by decide +kernel
theorem f_200_36 : zft 200 36 = some (1, .iconst 1) := by decide +kernel
theorem f_200_37 : zft 200 37 = some (1, .ireturn) := by decide +kernel
theorem f_201_0 : zft 201 0 = some (1, .iload_n 0) := by decide +kernel
theorem f_201_1 : zft 201 1 = some (2, .bipush 114) := by decide +kernel
theorem f_201_3 : zft 201 3 = some (3, .if_icmp .ne 7) := by decide +kernel
theorem f_201_6 : zft 201 6 = some (1, .iconst 4) := by decide +kernel
theorem f_201_7 : zft 201 7 = some (3, .goto 36) := by decide +kernel
theorem f_201_10 : zft 201 10 = some (1, .iload_n 0) := by decide +kernel
theorem f_201_11 : zft 201 11 = some (2, .bipush 99) := by decide +kernel
theorem f_201_13 : zft 201 13 = some (3, .if_icmp .eq 15) := by decide +kernel
theorem f_201_16 : zft 201 16 = some (1, .iload_n 0) := by decide +kernel
theorem f_201_17 : zft 201 17 = some (2, .bipush 108) := by decide +kernel
theorem f_201_19 : zft 201 19 = some (3, .if_icmp .eq 9) := by decide +kernel
theorem f_201_22 : zft 201 22 = some (1, .iload_n 0) := by decide +kernel
theorem f_201_23 : zft 201 23 = some (2, .bipush 107) := by decide +kernel
theorem f_201_25 : zft 201 25 = some (3, .if_icmp .ne 7) := by decide +kernel
theorem f_201_28 : zft 201 28 = some (1, .iconst 2) := by decide +kernel
theorem f_201_29 : zft 201 29 = some (3, .goto 14) := by decide +kernel
theorem f_201_32 : zft 201 32 = some (1, .iload_n 0) := by decide +kernel
theorem f_201_33 : zft 201 33 = some (2, .bipush 101) := by decide +kernel
theorem f_201_35 : zft 201 35 = some (3, .if_icmp .ne 7) := by decide +kernel
theorem f_201_38 : zft 201 38 = some (1, .iconst 1) := by decide +kernel
theorem f_201_39 : zft 201 39 = some (3, .goto 4) := by decide +kernel
theorem f_201_42 : zft 201 42 = some (1, .iconst 0) := by decide +kernel
theorem f_201_43 : zft 201 43 = some (1, .ireturn) := by decide +kernel
theorem f_202_0 : zft 202 0 = some (1, .aload_n 0) := by decide +kernel
theorem f_202_1 : zft 202 1 = some (3, .getfield 192) := by decide +kernel
theorem f_202_4 : zft 202 4 = some (1, .istore_n 2) := by decide +kernel
theorem f_202_5 : zft 202 5 = some (1, .aload_n 0) := by decide +kernel
theorem f_202_6 : zft 202 6 = some (3, .getfield 46) := by decide +kernel
theorem f_202_9 : zft 202 9 = some (1, .iload_n 1) := by decide +kernel
theorem f_202_10 : zft 202 10 = some (1, .iconst 0) := by decide +kernel
theorem f_202_11 : zft 202 11 = some (1, .iastore) := by decide +kernel
theorem f_202_12 : zft 202 12 = some (1, .aload_n 0) := by decide +kernel
theorem f_202_13 : zft 202 13 = some (3, .getfield 192) := by decide +kernel
theorem f_202_16 : zft 202 16 = some (1, .aload_n 0) := by decide +kernel
theorem f_202_17 : zft 202 17 = some (3, .getfield 189) := by decide +kernel
theorem f_202_20 : zft 202 20 = some (3, .if_icmp .ge 73) := by decide +kernel
theorem f_202_23 : zft 202 23 = some (1, .aload_n 0) := by decide +kernel
theorem f_202_24 : zft 202 24 = some (3, .getfield 192) := by decide +kernel
theorem f_202_27 : zft 202 27 = some (1, .iload_n 2) := by decide +kernel
theorem f_202_28 : zft 202 28 = some (1, .isub) := by decide +kernel
theorem f_202_29 : zft 202 29 = some (1, .iconst 2) := by decide +kernel
theorem f_202_30 : zft 202 30 = some (3, .if_icmp .ge 63) := by decide +kernel
theorem f_202_33 : zft 202 33 = some (1, .aload_n 0) := by decide +kernel
theorem f_202_34 : zft 202 34 = some (3, .getfield 38) := by decide +kernel
theorem f_202_37 : zft 202 37 = some (1, .aload_n 0) := by decide +kernel
theorem f_202_38 : zft 202 38 = some (3, .getfield 192) := by decide +kernel
theorem f_202_41 : zft 202 41 = some (1, .caload) := by decide +kernel
theorem f_202_42 : zft 202 42 = some (2, .bipush 48) := by decide +kernel
theorem f_202_44 : zft 202 44 = some (2, .bipush 57) := by decide +kernel
theorem f_202_46 : zft 202 46 = some (3, .invokestatic 58) := by decide +kernel
theorem f_202_49 : zft 202 49 = some (3, .ifCond .eq 44) := by decide +kernel
theorem f_202_52 : zft 202 52 = some (1, .aload_n 0) := by decide +kernel
theorem f_202_53 : zft 202 53 = some (3, .getfield 46) := by decide +kernel
theorem f_202_56 : zft 202 56 = some (1, .iload_n 1) := by decide +kernel
theorem f_202_57 : zft 202 57 = some (2, .bipush 10) := by decide +kernel
theorem f_202_59 : zft 202 59 = some (1, .aload_n 0) := by decide +kernel
theorem f_202_60 : zft 202 60 = some (3, .getfield 46) := by decide +kernel
theorem f_202_63 : zft 202 63 = some (1, .iload_n 1) := by decide +kernel
theorem f_202_64 : zft 202 64 = some (1, .iaload) := by decide +kernel
theorem f_202_65 : zft 202 65 = some (1, .imul) := by decide +kernel
theorem f_202_66 : zft 202 66 = some (1, .aload_n 0) := by decide +kernel
theorem f_202_67 : zft 202 67 = some (3, .getfield 38) := by decide +kernel
theorem f_202_70 : zft 202 70 = some (1, .aload_n 0) := by decide +kernel
theorem f_202_71 : zft 202 71 = some (3, .getfield 192) := by decide +kernel
theorem f_202_74 : zft 202 74 = some (1, .caload) := by decide +kernel
theorem f_202_75 : zft 202 75 = some (1, .iadd) := by decide +kernel
theorem f_202_76 : zft 202 76 = some (2, .bipush 48) := by decide +kernel
theorem f_202_78 : zft 202 78 = some (1, .isub) := by decide +kernel
theorem f_202_79 : zft 202 79 = some (1, .iastore) := by decide +kernel
theorem f_202_80 : zft 202 80 = some (1, .aload_n 0) := by decide +kernel
theorem f_202_81 : zft 202 81 = some (1, .dup) := by decide +kernel
theorem f_202_82 : zft 202 82 = some (3, .getfield 192) := by decide +kernel
theorem f_202_85 : zft 202 85 = some (1, .iconst 1) := by decide +kernel
theorem f_202_86 : zft 202 86 = some (1, .iadd) := by decide +kernel
theorem f_202_87 : zft 202 87 = some (3, .putfield 192) := by decide +kernel
theorem f_202_90 : zft 202 90 = some (3, .goto (-78)) := by decide +kernel
theorem f_202_93 : zft 202 93 = some (1, .aload_n 0) := by decide +kernel
theorem f_202_94 : zft 202 94 = some (3, .getfield 192) := by decide +kernel
theorem f_202_97 : zft 202 97 = some (1, .iload_n 2) := by decide +kernel
theorem f_202_98 : zft 202 98 = some (3, .if_icmp .le 7) := by decide +kernel
theorem f_202_101 : zft 202 101 = some (1, .iconst 1) := by decide +kernel
theorem f_202_102 : zft 202 102 = some (3, .goto 4) := by decide +kernel
theorem f_202_105 : zft 202 105 = some (1, .iconst 0) := by decide +kernel
theorem f_202_106 : zft 202 106 = some (1, .ireturn) := by decide +kernel
theorem f_203_0 : zft 203 0 = some (1, .aload_n 0) := by decide +kernel
theorem f_203_1 : zft 203 1 = some (1, .aload_n 0) := by decide +kernel
theorem f_203_2 : zft 203 2 = some (3, .getfield 192) := by decide +kernel
theorem f_203_5 : zft 203 5 = some (1, .aload_n 0) := by decide +kernel
theorem f_203_6 : zft 203 6 = some (3, .getfield 189) := by decide +kernel
theorem f_203_9 : zft 203 9 = some (3, .if_icmp .ge 15) := by decide +kernel
theorem f_203_12 : zft 203 12 = some (1, .aload_n 0) := by decide +kernel
theorem f_203_13 : zft 203 13 = some (3, .getfield 38) := by decide +kernel
theorem f_203_16 : zft 203 16 = some (1, .aload_n 0) := by decide +kernel
theorem f_203_17 : zft 203 17 = some (3, .getfield 192) := by decide +kernel
theorem f_203_20 : zft 203 20 = some (1, .caload) := by decide +kernel
theorem f_203_21 : zft 203 21 = some (3, .goto 4) := by decide +kernel
theorem f_203_24 : zft 203 24 = some (1, .iconst 0) := by decide +kernel
theorem f_203_25 : zft 203 25 = some (3, .putfield 195) := by decide +kernel
theorem f_203_28 : zft 203 28 = some (1, .aload_n 0) := by decide +kernel
theorem f_203_29 : zft 203 29 = some (3, .getfield 195) := by decide +kernel
theorem f_203_32 : zft 203 32 = some (3, .invokestatic 198) := by decide +kernel
theorem f_203_35 : zft 203 35 = some (1, .istore_n 1) := by decide +kernel
theorem f_203_36 : zft 203 36 = some (1, .iload_n 1) := by decide +kernel
theorem f_203_37 : zft 203 37 = some (3, .ifCond .ne 5) := by decide +kernel
theorem f_203_40 : zft 203 40 = some (1, .iconst 0) := by decide +kernel
theorem f_203_41 : zft 203 41 = some (1, .ireturn) := by decide +kernel
theorem f_203_42 : zft 203 42 = some (1, .aload_n 0) := by decide +kernel
theorem f_203_43 : zft 203 43 = some (1, .dup) := by decide +kernel
theorem f_203_44 : zft 203 44 = some (3, .getfield 192) := by decide +kernel
theorem f_203_47 : zft 203 47 = some (1, .iconst 1) := by decide +kernel
theorem f_203_48 : zft 203 48 = some (1, .iadd) := by decide +kernel
theorem f_203_49 : zft 203 49 = some (3, .putfield 192) := by decide +kernel
theorem f_203_52 : zft 203 52 = some (1, .iconst 0) := by decide +kernel
theorem f_203_53 : zft 203 53 = some (1, .istore_n 2) := by decide +kernel
theorem f_203_54 : zft 203 54 = some (1, .iload_n 2) := by decide +kernel
theorem f_203_55 : zft 203 55 = some (1, .iload_n 1) := by decide +kernel
theorem f_203_56 : zft 203 56 = some (3, .if_icmp .ge 32) := by decide +kernel
theorem f_203_59 : zft 203 59 = some (1, .iload_n 2) := by decide +kernel
theorem f_203_60 : zft 203 60 = some (3, .ifCond .le 12) := by decide +kernel
theorem f_203_63 : zft 203 63 = some (1, .aload_n 0) := by decide +kernel
theorem f_203_64 : zft 203 64 = some (2, .bipush 44) := by decide +kernel
theorem f_203_66 : zft 203 66 = some (3, .invokevirtual 201) := by decide +kernel
theorem f_203_69 : zft 203 69 = some (3, .ifCond .eq 11) := by decide +kernel
theorem f_203_72 : zft 203 72 = some (1, .aload_n 0) := by decide +kernel
theorem f_203_73 : zft 203 73 = some (1, .iload_n 2) := by decide +kernel
theorem f_203_74 : zft 203 74 = some (3, .invokevirtual 204) := by decide +kernel
theorem f_203_77 : zft 203 77 = some (3, .ifCond .ne 5) := by decide +kernel
theorem f_203_80 : zft 203 80 = some (1, .iconst 0) := by decide +kernel
theorem f_203_81 : zft 203 81 = some (1, .ireturn) := by decide +kernel
theorem f_203_82 : zft 203 82 = some (3, .iinc 2 1) := by decide +kernel
theorem f_203_85 : zft 203 85 = some (3, .goto (-31)) := by decide +kernel
theorem f_203_88 : zft 203 88 = some (1, .iconst 1) := by decide +kernel
theorem f_203_89 : zft 203 89 = some (1, .ireturn) := by decide +kernel
theorem f_204_0 : zft 204 0 = some (1, .aload_n 0) := by decide +kernel
theorem f_204_1 : zft 204 1 = some (3, .getfield 195) := by decide +kernel
theorem f_204_4 : zft 204 4 = some (44, .lookupswitch 124 #[(99, 73), (107, 107), (108, 90), (114, 44)]) := by decide +kernel
theorem f_204_48 : zft 204 48 = some (1, .aload_n 0) := by decide +kernel
theorem f_204_49 : zft 204 49 = some (1, .aload_n 0) := by decide +kernel
theorem f_204_50 : zft 204 50 = some (3, .getfield 46) := by decide +kernel
theorem f_204_53 : zft 204 53 = some (1, .iconst 0) := by decide +kernel
theorem f_204_54 : zft 204 54 = some (1, .iaload) := by decide +kernel
theorem f_204_55 : zft 204 55 = some (1, .aload_n 0) := by decide +kernel
theorem f_204_56 : zft 204 56 = some (3, .getfield 46) := by decide +kernel
theorem f_204_59 : zft 204 59 = some (1, .iconst 1) := by decide +kernel
theorem f_204_60 : zft 204 60 = some (1, .iaload) := by decide +kernel
theorem f_204_61 : zft 204 61 = some (1, .aload_n 0) := by decide +kernel
theorem f_204_62 : zft 204 62 = some (3, .getfield 46) := by decide +kernel
theorem f_204_65 : zft 204 65 = some (1, .iconst 2) := by decide +kernel
theorem f_204_66 : zft 204 66 = some (1, .iaload) := by decide +kernel
theorem f_204_67 : zft 204 67 = some (1, .aload_n 0) := by decide +kernel
theorem f_204_68 : zft 204 68 = some (3, .getfield 46) := by decide +kernel
theorem f_204_71 : zft 204 71 = some (1, .iconst 3) := by decide +kernel
theorem f_204_72 : zft 204 72 = some (1, .iaload) := by decide +kernel
theorem f_204_73 : zft 204 73 = some (3, .invokevirtual 104) := by decide +kernel
theorem f_204_76 : zft 204 76 = some (1, .ireturn) := by decide +kernel
theorem f_204_77 : zft 204 77 = some (1, .aload_n 0) := by decide +kernel
theorem f_204_78 : zft 204 78 = some (1, .aload_n 0) := by decide +kernel
theorem f_204_79 : zft 204 79 = some (3, .getfield 46) := by decide +kernel
theorem f_204_82 : zft 204 82 = some (1, .iconst 0) := by decide +kernel
theorem f_204_83 : zft 204 83 = some (1, .iaload) := by decide +kernel
theorem f_204_84 : zft 204 84 = some (1, .aload_n 0) := by decide +kernel
theorem f_204_85 : zft 204 85 = some (3, .getfield 46) := by decide +kernel
theorem f_204_88 : zft 204 88 = some (1, .iconst 1) := by decide +kernel
theorem f_204_89 : zft 204 89 = some (1, .iaload) := by decide +kernel
theorem f_204_90 : zft 204 90 = some (3, .invokevirtual 111) := by decide +kernel
theorem f_204_93 : zft 204 93 = some (1, .ireturn) := by decide +kernel
theorem f_204_94 : zft 204 94 = some (1, .aload_n 0) := by decide +kernel
theorem f_204_95 : zft 204 95 = some (1, .aload_n 0) := by decide +kernel
theorem f_204_96 : zft 204 96 = some (3, .getfield 46) := by decide +kernel
theorem f_204_99 : zft 204 99 = some (1, .iconst 0) := by decide +kernel
theorem f_204_100 : zft 204 100 = some (1, .iaload) := by decide +kernel
theorem f_204_101 : zft 204 101 = some (1, .aload_n 0) := by decide +kernel
theorem f_204_102 : zft 204 102 = some (3, .getfield 46) := by decide +kernel
theorem f_204_105 : zft 204 105 = some (1, .iconst 1) := by decide +kernel
theorem f_204_106 : zft 204 106 = some (1, .iaload) := by decide +kernel
theorem f_204_107 : zft 204 107 = some (3, .invokevirtual 114) := by decide +kernel
theorem f_204_110 : zft 204 110 = some (1, .ireturn) := by decide +kernel
theorem f_204_111 : zft 204 111 = some (1, .aload_n 0) := by decide +kernel
theorem f_204_112 : zft 204 112 = some (1, .aload_n 0) := by decide +kernel
theorem f_204_113 : zft 204 113 = some (3, .getfield 46) := by decide +kernel
theorem f_204_116 : zft 204 116 = some (1, .iconst 0) := by decide +kernel
theorem f_204_117 : zft 204 117 = some (1, .iaload) := by decide +kernel
theorem f_204_118 : zft 204 118 = some (1, .aload_n 0) := by decide +kernel
theorem f_204_119 : zft 204 119 = some (3, .getfield 46) := by decide +kernel
theorem f_204_122 : zft 204 122 = some (1, .iconst 1) := by decide +kernel
theorem f_204_123 : zft 204 123 = some (1, .iaload) := by decide +kernel
theorem f_204_124 : zft 204 124 = some (3, .invokevirtual 117) := by decide +kernel
theorem f_204_127 : zft 204 127 = some (1, .ireturn) := by decide +kernel
theorem f_204_128 : zft 204 128 = some (1, .aload_n 0) := by decide +kernel
theorem f_204_129 : zft 204 129 = some (1, .aload_n 0) := by decide +kernel
theorem f_204_130 : zft 204 130 = some (3, .getfield 46) := by decide +kernel
theorem f_204_133 : zft 204 133 = some (1, .iconst 0) := by decide +kernel
theorem f_204_134 : zft 204 134 = some (1, .iaload) := by decide +kernel
theorem f_204_135 : zft 204 135 = some (3, .invokevirtual 120) := by decide +kernel
theorem f_204_138 : zft 204 138 = some (1, .ireturn) := by decide +kernel
theorem f_205_0 : zft 205 0 = some (1, .aload_n 0) := by decide +kernel
theorem f_205_1 : zft 205 1 = some (1, .iconst 0) := by decide +kernel
theorem f_205_2 : zft 205 2 = some (3, .putfield 192) := by decide +kernel
theorem f_205_5 : zft 205 5 = some (1, .aload_n 0) := by decide +kernel
theorem f_205_6 : zft 205 6 = some (3, .invokevirtual 207) := by decide +kernel
theorem f_205_9 : zft 205 9 = some (1, .istore_n 1) := by decide +kernel
theorem f_205_10 : zft 205 10 = some (1, .iload_n 1) := by decide +kernel
theorem f_205_11 : zft 205 11 = some (3, .ifCond .eq 20) := by decide +kernel
theorem f_205_14 : zft 205 14 = some (1, .aload_n 0) := by decide +kernel
theorem f_205_15 : zft 205 15 = some (2, .bipush 59) := by decide +kernel
theorem f_205_17 : zft 205 17 = some (3, .invokevirtual 201) := by decide +kernel
theorem f_205_20 : zft 205 20 = some (3, .ifCond .eq 11) := by decide +kernel
theorem f_205_23 : zft 205 23 = some (1, .aload_n 0) := by decide +kernel
theorem f_205_24 : zft 205 24 = some (3, .invokevirtual 207) := by decide +kernel
theorem f_205_27 : zft 205 27 = some (1, .istore_n 1) := by decide +kernel
theorem f_205_28 : zft 205 28 = some (3, .goto (-18)) := by decide +kernel
theorem f_205_31 : zft 205 31 = some (1, .iload_n 1) := by decide +kernel
theorem f_205_32 : zft 205 32 = some (3, .ifCond .eq 14) := by decide +kernel
theorem f_205_35 : zft 205 35 = some (1, .aload_n 0) := by decide +kernel
theorem f_205_36 : zft 205 36 = some (3, .getfield 192) := by decide +kernel
theorem f_205_39 : zft 205 39 = some (1, .aload_n 0) := by decide +kernel
theorem f_205_40 : zft 205 40 = some (3, .getfield 189) := by decide +kernel
theorem f_205_43 : zft 205 43 = some (3, .if_icmp .ge 19) := by decide +kernel
theorem f_205_46 : zft 205 46 = some (1, .aload_n 0) := by decide +kernel
theorem f_205_47 : zft 205 47 = some (1, .aload_n 0) := by decide +kernel
theorem f_205_48 : zft 205 48 = some (3, .getfield 192) := by decide +kernel
theorem f_205_51 : zft 205 51 = some (3, .putfield 42) := by decide +kernel
theorem f_205_54 : zft 205 54 = some (1, .aload_n 0) := by decide +kernel
theorem f_205_55 : zft 205 55 = some (1, .iconst 0) := by decide +kernel
theorem f_205_56 : zft 205 56 = some (3, .putfield 189) := by decide +kernel
theorem f_205_59 : zft 205 59 = some (2, .bipush (-102)) := by decide +kernel
theorem f_205_61 : zft 205 61 = some (1, .ireturn) := by decide +kernel
theorem f_205_62 : zft 205 62 = some (1, .aload_n 0) := by decide +kernel
theorem f_205_63 : zft 205 63 = some (3, .invokevirtual 101) := by decide +kernel
theorem f_205_66 : zft 205 66 = some (1, .aload_n 0) := by decide +kernel
theorem f_205_67 : zft 205 67 = some (1, .iconst 0) := by decide +kernel
theorem f_205_68 : zft 205 68 = some (3, .putfield 192) := by decide +kernel
theorem f_205_71 : zft 205 71 = some (1, .iconst 0) := by decide +kernel
theorem f_205_72 : zft 205 72 = some (1, .istore_n 2) := by decide +kernel
theorem f_205_73 : zft 205 73 = some (1, .iconst 0) := by decide +kernel
theorem f_205_74 : zft 205 74 = some (1, .istore_n 3) := by decide +kernel
theorem f_205_75 : zft 205 75 = some (1, .aload_n 0) := by decide +kernel
theorem f_205_76 : zft 205 76 = some (3, .getfield 192) := by decide +kernel
theorem f_205_79 : zft 205 79 = some (1, .aload_n 0) := by decide +kernel
theorem f_205_80 : zft 205 80 = some (3, .getfield 189) := by decide +kernel
theorem f_205_83 : zft 205 83 = some (3, .if_icmp .ge 87) := by decide +kernel
theorem f_205_86 : zft 205 86 = some (1, .aload_n 0) := by decide +kernel
theorem f_205_87 : zft 205 87 = some (3, .getfield 192) := by decide +kernel
theorem f_205_90 : zft 205 90 = some (1, .istore_n 3) := by decide +kernel
theorem f_205_91 : zft 205 91 = some (1, .aload_n 0) := by decide +kernel
theorem f_205_92 : zft 205 92 = some (3, .invokevirtual 207) := by decide +kernel
theorem f_205_95 : zft 205 95 = some (1, .istore_n 1) := by decide +kernel
theorem f_205_96 : zft 205 96 = some (1, .aload_n 0) := by decide +kernel
theorem f_205_97 : zft 205 97 = some (3, .invokevirtual 211) := by decide +kernel
theorem f_205_100 : zft 205 100 = some (2, .istore 4) := by decide +kernel
theorem f_205_102 : zft 205 102 = some (2, .iload 4) := by decide +kernel
theorem f_205_104 : zft 205 104 = some (3, .ifCond .ge 53) := by decide +kernel
theorem f_205_107 : zft 205 107 = some (2, .iload 4) := by decide +kernel
theorem f_205_109 : zft 205 109 = some (2, .bipush (-104)) := by decide +kernel
theorem f_205_111 : zft 205 111 = some (3, .if_icmp .eq 46) := by decide +kernel
theorem f_205_114 : zft 205 114 = some (1, .iconst 0) := by decide +kernel
theorem f_205_115 : zft 205 115 = some (2, .istore 5) := by decide +kernel
theorem f_205_117 : zft 205 117 = some (2, .iload 5) := by decide +kernel
theorem f_205_119 : zft 205 119 = some (2, .bipush 124) := by decide +kernel
theorem f_205_121 : zft 205 121 = some (3, .if_icmp .ge 23) := by decide +kernel
theorem f_205_124 : zft 205 124 = some (1, .aload_n 0) := by decide +kernel
theorem f_205_125 : zft 205 125 = some (3, .getfield 7) := by decide +kernel
theorem f_205_128 : zft 205 128 = some (2, .iload 5) := by decide +kernel
theorem f_205_130 : zft 205 130 = some (1, .aload_n 0) := by decide +kernel
theorem f_205_131 : zft 205 131 = some (3, .getfield 19) := by decide +kernel
theorem f_205_134 : zft 205 134 = some (2, .iload 5) := by decide +kernel
theorem f_205_136 : zft 205 136 = some (1, .iaload) := by decide +kernel
theorem f_205_137 : zft 205 137 = some (1, .iastore) := by decide +kernel
theorem f_205_138 : zft 205 138 = some (3, .iinc 5 1) := by decide +kernel
theorem f_205_141 : zft 205 141 = some (3, .goto (-24)) := by decide +kernel
theorem f_205_144 : zft 205 144 = some (1, .aload_n 0) := by decide +kernel
theorem f_205_145 : zft 205 145 = some (1, .iload_n 3) := by decide +kernel
theorem f_205_146 : zft 205 146 = some (3, .putfield 42) := by decide +kernel
theorem f_205_149 : zft 205 149 = some (1, .aload_n 0) := by decide +kernel
theorem f_205_150 : zft 205 150 = some (1, .iconst 0) := by decide +kernel
theorem f_205_151 : zft 205 151 = some (3, .putfield 189) := by decide +kernel
theorem f_205_154 : zft 205 154 = some (2, .bipush (-105)) := by decide +kernel
theorem f_205_156 : zft 205 156 = some (1, .ireturn) := by decide +kernel
theorem f_205_157 : zft 205 157 = some (3, .iinc 2 1) := by decide +kernel
theorem f_205_160 : zft 205 160 = some (1, .aload_n 0) := by decide +kernel
theorem f_205_161 : zft 205 161 = some (2, .bipush 59) := by decide +kernel
theorem f_205_163 : zft 205 163 = some (3, .invokevirtual 201) := by decide +kernel
theorem f_205_166 : zft 205 166 = some (1, .istore_n 1) := by decide +kernel
theorem f_205_167 : zft 205 167 = some (3, .goto (-92)) := by decide +kernel
theorem f_205_170 : zft 205 170 = some (1, .aload_n 0) := by decide +kernel
theorem f_205_171 : zft 205 171 = some (2, .bipush (-104)) := by decide +kernel
theorem f_205_173 : zft 205 173 = some (3, .putfield 42) := by decide +kernel
theorem f_205_176 : zft 205 176 = some (1, .aload_n 0) := by decide +kernel
theorem f_205_177 : zft 205 177 = some (1, .iconst 0) := by decide +kernel
theorem f_205_178 : zft 205 178 = some (3, .putfield 189) := by decide +kernel
theorem f_205_181 : zft 205 181 = some (1, .aload_n 0) := by decide +kernel
theorem f_205_182 : zft 205 182 = some (3, .invokevirtual 79) := by decide +kernel
theorem f_205_185 : zft 205 185 = some (1, .iload_n 2) := by decide +kernel
theorem f_205_186 : zft 205 186 = some (1, .ireturn) := by decide +kernel
theorem f_206_0 : zft 206 0 = some (1, .aload_n 0) := by decide +kernel
theorem f_206_1 : zft 206 1 = some (3, .getfield 42) := by decide +kernel
theorem f_206_4 : zft 206 4 = some (1, .ireturn) := by decide +kernel
theorem f_207_0 : zft 207 0 = some (1, .aload_n 0) := by decide +kernel
theorem f_207_1 : zft 207 1 = some (3, .getfield 76) := by decide +kernel
theorem f_207_4 : zft 207 4 = some (3, .ifCond .ne 6) := by decide +kernel
theorem f_207_7 : zft 207 7 = some (2, .bipush (-104)) := by decide +kernel
theorem f_207_9 : zft 207 9 = some (1, .ireturn) := by decide +kernel
theorem f_207_10 : zft 207 10 = some (1, .aload_n 0) := by decide +kernel
theorem f_207_11 : zft 207 11 = some (1, .dup) := by decide +kernel
theorem f_207_12 : zft 207 12 = some (3, .getfield 76) := by decide +kernel
theorem f_207_15 : zft 207 15 = some (1, .iconst 1) := by decide +kernel
theorem f_207_16 : zft 207 16 = some (1, .isub) := by decide +kernel
theorem f_207_17 : zft 207 17 = some (3, .putfield 76) := by decide +kernel
theorem f_207_20 : zft 207 20 = some (1, .iconst 0) := by decide +kernel
theorem f_207_21 : zft 207 21 = some (1, .istore_n 1) := by decide +kernel
theorem f_207_22 : zft 207 22 = some (1, .iload_n 1) := by decide +kernel
theorem f_207_23 : zft 207 23 = some (2, .bipush 124) := by decide +kernel
theorem f_207_25 : zft 207 25 = some (3, .if_icmp .ge 29) := by decide +kernel
theorem f_207_28 : zft 207 28 = some (1, .aload_n 0) := by decide +kernel
theorem f_207_29 : zft 207 29 = some (3, .getfield 7) := by decide +kernel
theorem f_207_32 : zft 207 32 = some (1, .iload_n 1) := by decide +kernel
theorem f_207_33 : zft 207 33 = some (1, .aload_n 0) := by decide +kernel
theorem f_207_34 : zft 207 34 = some (3, .getfield 13) := by decide +kernel
theorem f_207_37 : zft 207 37 = some (2, .bipush 124) := by decide +kernel
theorem f_207_39 : zft 207 39 = some (1, .aload_n 0) := by decide +kernel
theorem f_207_40 : zft 207 40 = some (3, .getfield 76) := by decide +kernel
theorem f_207_43 : zft 207 43 = some (1, .imul) := by decide +kernel
theorem f_207_44 : zft 207 44 = some (1, .iload_n 1) := by decide +kernel
theorem f_207_45 : zft 207 45 = some (1, .iadd) := by decide +kernel
theorem f_207_46 : zft 207 46 = some (1, .iaload) := by decide +kernel
theorem f_207_47 : zft 207 47 = some (1, .iastore) := by decide +kernel
theorem f_207_48 : zft 207 48 = some (3, .iinc 1 1) := by decide +kernel
theorem f_207_51 : zft 207 51 = some (3, .goto (-29)) := by decide +kernel
theorem f_207_54 : zft 207 54 = some (1, .aload_n 0) := by decide +kernel
theorem f_207_55 : zft 207 55 = some (3, .getfield 76) := by decide +kernel
theorem f_207_58 : zft 207 58 = some (1, .ireturn) := by decide +kernel
theorem f_208_0 : zft 208 0 = some (1, .iload_n 0) := by decide +kernel
theorem f_208_1 : zft 208 1 = some (1, .iconst 0) := by decide +kernel
theorem f_208_2 : zft 208 2 = some (2, .bipush 23) := by decide +kernel
theorem f_208_4 : zft 208 4 = some (3, .invokestatic 58) := by decide +kernel
theorem f_208_7 : zft 208 7 = some (3, .ifCond .eq 17) := by decide +kernel
theorem f_208_10 : zft 208 10 = some (1, .iload_n 1) := by decide +kernel
theorem f_208_11 : zft 208 11 = some (1, .iconst 0) := by decide +kernel
theorem f_208_12 : zft 208 12 = some (2, .bipush 15) := by decide +kernel
theorem f_208_14 : zft 208 14 = some (3, .invokestatic 58) := by decide +kernel
theorem f_208_17 : zft 208 17 = some (3, .ifCond .eq 7) := by decide +kernel
theorem f_208_20 : zft 208 20 = some (1, .iconst 1) := by decide +kernel
theorem f_208_21 : zft 208 21 = some (3, .goto 4) := by decide +kernel
theorem f_208_24 : zft 208 24 = some (1, .iconst 0) := by decide +kernel
theorem f_208_25 : zft 208 25 = some (1, .ireturn) := by decide +kernel
theorem f_209_0 : zft 209 0 = some (1, .iload_n 1) := by decide +kernel
theorem f_209_1 : zft 209 1 = some (1, .iload_n 2) := by decide +kernel
theorem f_209_2 : zft 209 2 = some (3, .if_icmp .ge 12) := by decide +kernel
theorem f_209_5 : zft 209 5 = some (1, .iload_n 0) := by decide +kernel
theorem f_209_6 : zft 209 6 = some (1, .iload_n 1) := by decide +kernel
theorem f_209_7 : zft 209 7 = some (1, .iload_n 2) := by decide +kernel
theorem f_209_8 : zft 209 8 = some (3, .invokestatic 58) := by decide +kernel
theorem f_209_11 : zft 209 11 = some (3, .goto 9) := by decide +kernel
theorem f_209_14 : zft 209 14 = some (1, .iload_n 0) := by decide +kernel
theorem f_209_15 : zft 209 15 = some (1, .iload_n 2) := by decide +kernel
theorem f_209_16 : zft 209 16 = some (1, .iload_n 1) := by decide +kernel
theorem f_209_17 : zft 209 17 = some (3, .invokestatic 58) := by decide +kernel
theorem f_209_20 : zft 209 20 = some (1, .ireturn) := by decide +kernel
theorem f_210_0 : zft 210 0 = some (1, .aload_n 0) := by decide +kernel
theorem f_210_1 : zft 210 1 = some (1, .iload_n 1) := by decide +kernel
theorem f_210_2 : zft 210 2 = some (1, .iconst 0) := by decide +kernel
theorem f_210_3 : zft 210 3 = some (3, .invokevirtual 85) := by decide +kernel
theorem f_210_6 : zft 210 6 = some (2, .istore 4) := by decide +kernel
theorem f_210_8 : zft 210 8 = some (1, .aload_n 0) := by decide +kernel
theorem f_210_9 : zft 210 9 = some (1, .iload_n 1) := by decide +kernel
theorem f_210_10 : zft 210 10 = some (1, .iconst 1) := by decide +kernel
theorem f_210_11 : zft 210 11 = some (3, .invokevirtual 85) := by decide +kernel
theorem f_210_14 : zft 210 14 = some (2, .istore 5) := by decide +kernel
theorem f_210_16 : zft 210 16 = some (1, .iload_n 2) := by decide +kernel
theorem f_210_17 : zft 210 17 = some (1, .aload_n 0) := by decide +kernel
theorem f_210_18 : zft 210 18 = some (2, .iload 4) := by decide +kernel
theorem f_210_20 : zft 210 20 = some (3, .invokevirtual 66) := by decide +kernel
theorem f_210_23 : zft 210 23 = some (1, .aload_n 0) := by decide +kernel
theorem f_210_24 : zft 210 24 = some (2, .iload 5) := by decide +kernel
theorem f_210_26 : zft 210 26 = some (3, .invokevirtual 66) := by decide +kernel
theorem f_210_29 : zft 210 29 = some (3, .invokestatic 214) := by decide +kernel
theorem f_210_32 : zft 210 32 = some (3, .ifCond .eq 32) := by decide +kernel
theorem f_210_35 : zft 210 35 = some (1, .iload_n 3) := by decide +kernel
theorem f_210_36 : zft 210 36 = some (1, .iload_n 1) := by decide +kernel
theorem f_210_37 : zft 210 37 = some (1, .iconst 2) := by decide +kernel
theorem f_210_38 : zft 210 38 = some (1, .irem) := by decide +kernel
theorem f_210_39 : zft 210 39 = some (3, .ifCond .ne 12) := by decide +kernel
theorem f_210_42 : zft 210 42 = some (1, .aload_n 0) := by decide +kernel
theorem f_210_43 : zft 210 43 = some (2, .iload 4) := by decide +kernel
theorem f_210_45 : zft 210 45 = some (3, .invokevirtual 73) := by decide +kernel
theorem f_210_48 : zft 210 48 = some (3, .goto 9) := by decide +kernel
theorem f_210_51 : zft 210 51 = some (1, .aload_n 0) := by decide +kernel
theorem f_210_52 : zft 210 52 = some (2, .iload 5) := by decide +kernel
theorem f_210_54 : zft 210 54 = some (3, .invokevirtual 73) := by decide +kernel
theorem f_210_57 : zft 210 57 = some (3, .if_icmp .ne 7) := by decide +kernel
theorem f_210_60 : zft 210 60 = some (1, .iconst 1) := by decide +kernel
theorem f_210_61 : zft 210 61 = some (3, .goto 4) := by decide +kernel
theorem f_210_64 : zft 210 64 = some (1, .iconst 0) := by decide +kernel
theorem f_210_65 : zft 210 65 = some (2, .istore 6) := by decide +kernel
theorem f_210_67 : zft 210 67 = some (1, .iload_n 3) := by decide +kernel
theorem f_210_68 : zft 210 68 = some (1, .aload_n 0) := by decide +kernel
theorem f_210_69 : zft 210 69 = some (2, .iload 4) := by decide +kernel
theorem f_210_71 : zft 210 71 = some (3, .invokevirtual 73) := by decide +kernel
theorem f_210_74 : zft 210 74 = some (1, .aload_n 0) := by decide +kernel
theorem f_210_75 : zft 210 75 = some (2, .iload 5) := by decide +kernel
theorem f_210_77 : zft 210 77 = some (3, .invokevirtual 73) := by decide +kernel
theorem f_210_80 : zft 210 80 = some (3, .invokestatic 214) := by decide +kernel
theorem f_210_83 : zft 210 83 = some (3, .ifCond .eq 32) := by decide +kernel
theorem f_210_86 : zft 210 86 = some (1, .iload_n 2) := by decide +kernel
theorem f_210_87 : zft 210 87 = some (1, .iload_n 1) := by decide +kernel
theorem f_210_88 : zft 210 88 = some (1, .iconst 2) := by decide +kernel
theorem f_210_89 : zft 210 89 = some (1, .irem) := by decide +kernel
theorem f_210_90 : zft 210 90 = some (3, .ifCond .ne 12) := by decide +kernel
theorem f_210_93 : zft 210 93 = some (1, .aload_n 0) := by decide +kernel
theorem f_210_94 : zft 210 94 = some (2, .iload 5) := by decide +kernel
theorem f_210_96 : zft 210 96 = some (3, .invokevirtual 66) := by decide +kernel
theorem f_210_99 : zft 210 99 = some (3, .goto 9) := by decide +kernel
theorem f_210_102 : zft 210 102 = some (1, .aload_n 0) := by decide +kernel
theorem f_210_103 : zft 210 103 = some (2, .iload 4) := by decide +kernel
theorem f_210_105 : zft 210 105 = some (3, .invokevirtual 66) := by decide +kernel
theorem f_210_108 : zft 210 108 = some (3, .if_icmp .ne 7) := by decide +kernel
theorem f_210_111 : zft 210 111 = some (1, .iconst 1) := by decide +kernel
theorem f_210_112 : zft 210 112 = some (3, .goto 4) := by decide +kernel
theorem f_210_115 : zft 210 115 = some (1, .iconst 0) := by decide +kernel
theorem f_210_116 : zft 210 116 = some (2, .istore 7) := by decide +kernel
theorem f_210_118 : zft 210 118 = some (2, .iload 6) := by decide +kernel
theorem f_210_120 : zft 210 120 = some (3, .ifCond .ne 8) := by decide +kernel
theorem f_210_123 : zft 210 123 = some (2, .iload 7) := by decide +kernel
theorem f_210_125 : zft 210 125 = some (3, .ifCond .eq 17) := by decide +kernel
theorem f_210_128 : zft 210 128 = some (1, .aload_n 0) := by decide +kernel
theorem f_210_129 : zft 210 129 = some (1, .iload_n 2) := by decide +kernel
theorem f_210_130 : zft 210 130 = some (1, .iload_n 3) := by decide +kernel
theorem f_210_131 : zft 210 131 = some (3, .invokevirtual 82) := by decide +kernel
theorem f_210_134 : zft 210 134 = some (1, .iconst (-1)) := by decide +kernel
theorem f_210_135 : zft 210 135 = some (3, .if_icmp .ne 7) := by decide +kernel
theorem f_210_138 : zft 210 138 = some (1, .iconst 1) := by decide +kernel
theorem f_210_139 : zft 210 139 = some (3, .goto 4) := by decide +kernel
theorem f_210_142 : zft 210 142 = some (1, .iconst 0) := by decide +kernel
theorem f_210_143 : zft 210 143 = some (1, .ireturn) := by decide +kernel
theorem f_211_0 : zft 211 0 = some (1, .iconst 0) := by decide +kernel
theorem f_211_1 : zft 211 1 = some (2, .istore 4) := by decide +kernel
theorem f_211_3 : zft 211 3 = some (2, .iload 4) := by decide +kernel
theorem f_211_5 : zft 211 5 = some (1, .aload_n 0) := by decide +kernel
theorem f_211_6 : zft 211 6 = some (3, .getfield 7) := by decide +kernel
theorem f_211_9 : zft 211 9 = some (2, .bipush 121) := by decide +kernel
theorem f_211_11 : zft 211 11 = some (1, .iaload) := by decide +kernel
theorem f_211_12 : zft 211 12 = some (3, .if_icmp .ge 37) := by decide +kernel
theorem f_211_15 : zft 211 15 = some (1, .aload_n 0) := by decide +kernel
theorem f_211_16 : zft 211 16 = some (2, .iload 4) := by decide +kernel
theorem f_211_18 : zft 211 18 = some (1, .iload_n 1) := by decide +kernel
theorem f_211_19 : zft 211 19 = some (1, .iload_n 2) := by decide +kernel
theorem f_211_20 : zft 211 20 = some (3, .invokevirtual 217) := by decide +kernel
theorem f_211_23 : zft 211 23 = some (3, .ifCond .eq 20) := by decide +kernel
theorem f_211_26 : zft 211 26 = some (1, .iload_n 3) := by decide +kernel
theorem f_211_27 : zft 211 27 = some (3, .ifCond .eq 13) := by decide +kernel
theorem f_211_30 : zft 211 30 = some (1, .aload_n 0) := by decide +kernel
theorem f_211_31 : zft 211 31 = some (2, .iload 4) := by decide +kernel
theorem f_211_33 : zft 211 33 = some (1, .iconst 2) := by decide +kernel
theorem f_211_34 : zft 211 34 = some (3, .invokevirtual 85) := by decide +kernel
theorem f_211_37 : zft 211 37 = some (3, .ifCond .lt 6) := by decide +kernel
theorem f_211_40 : zft 211 40 = some (2, .iload 4) := by decide +kernel
theorem f_211_42 : zft 211 42 = some (1, .ireturn) := by decide +kernel
theorem f_211_43 : zft 211 43 = some (3, .iinc 4 1) := by decide +kernel
theorem f_211_46 : zft 211 46 = some (3, .goto (-43)) := by decide +kernel
theorem f_211_49 : zft 211 49 = some (1, .iconst (-1)) := by decide +kernel
theorem f_211_50 : zft 211 50 = some (1, .ireturn) := by decide +kernel
theorem f_212_0 : zft 212 0 = some (1, .iconst 0) := by decide +kernel
theorem f_212_1 : zft 212 1 = some (1, .istore_n 2) := by decide +kernel
theorem f_212_2 : zft 212 2 = some (1, .iconst 0) := by decide +kernel
theorem f_212_3 : zft 212 3 = some (1, .istore_n 3) := by decide +kernel
theorem f_212_4 : zft 212 4 = some (1, .iload_n 3) := by decide +kernel
theorem f_212_5 : zft 212 5 = some (3, .sipush 384) := by decide +kernel
theorem f_212_8 : zft 212 8 = some (3, .if_icmp .ge 33) := by decide +kernel
theorem f_212_11 : zft 212 11 = some (1, .iload_n 2) := by decide +kernel
theorem f_212_12 : zft 212 12 = some (1, .aload_n 0) := by decide +kernel
theorem f_212_13 : zft 212 13 = some (1, .iload_n 1) := by decide +kernel
theorem f_212_14 : zft 212 14 = some (1, .iload_n 3) := by decide +kernel
theorem f_212_15 : zft 212 15 = some (2, .bipush 24) := by decide +kernel
theorem f_212_17 : zft 212 17 = some (1, .irem) := by decide +kernel
theorem f_212_18 : zft 212 18 = some (1, .iload_n 3) := by decide +kernel
theorem f_212_19 : zft 212 19 = some (2, .bipush 24) := by decide +kernel
theorem f_212_21 : zft 212 21 = some (1, .idiv) := by decide +kernel
theorem f_212_22 : zft 212 22 = some (3, .invokevirtual 217) := by decide +kernel
theorem f_212_25 : zft 212 25 = some (3, .ifCond .eq 7) := by decide +kernel
theorem f_212_28 : zft 212 28 = some (1, .iconst 1) := by decide +kernel
theorem f_212_29 : zft 212 29 = some (3, .goto 4) := by decide +kernel
theorem f_212_32 : zft 212 32 = some (1, .iconst 0) := by decide +kernel
theorem f_212_33 : zft 212 33 = some (1, .iadd) := by decide +kernel
theorem f_212_34 : zft 212 34 = some (1, .istore_n 2) := by decide +kernel
theorem f_212_35 : zft 212 35 = some (3, .iinc 3 1) := by decide +kernel
theorem f_212_38 : zft 212 38 = some (3, .goto (-34)) := by decide +kernel
theorem f_212_41 : zft 212 41 = some (1, .iload_n 2) := by decide +kernel
theorem f_212_42 : zft 212 42 = some (1, .ireturn) := by decide +kernel
theorem f_213_0 : zft 213 0 = some (1, .iload_n 1) := by decide +kernel
theorem f_213_1 : zft 213 1 = some (1, .iload_n 2) := by decide +kernel
theorem f_213_2 : zft 213 2 = some (3, .invokestatic 220) := by decide +kernel
theorem f_213_5 : zft 213 5 = some (3, .ifCond .ne 6) := by decide +kernel
theorem f_213_8 : zft 213 8 = some (2, .bipush (-101)) := by decide +kernel
theorem f_213_10 : zft 213 10 = some (1, .ireturn) := by decide +kernel
theorem f_213_11 : zft 213 11 = some (1, .aload_n 0) := by decide +kernel
theorem f_213_12 : zft 213 12 = some (1, .iload_n 1) := by decide +kernel
theorem f_213_13 : zft 213 13 = some (1, .iload_n 2) := by decide +kernel
theorem f_213_14 : zft 213 14 = some (3, .invokevirtual 82) := by decide +kernel
theorem f_213_17 : zft 213 17 = some (1, .istore_n 3) := by decide +kernel
theorem f_213_18 : zft 213 18 = some (1, .aload_n 0) := by decide +kernel
theorem f_213_19 : zft 213 19 = some (1, .iload_n 1) := by decide +kernel
theorem f_213_20 : zft 213 20 = some (1, .iload_n 2) := by decide +kernel
theorem f_213_21 : zft 213 21 = some (1, .iconst 0) := by decide +kernel
theorem f_213_22 : zft 213 22 = some (3, .invokevirtual 224) := by decide +kernel
theorem f_213_25 : zft 213 25 = some (2, .istore 4) := by decide +kernel
theorem f_213_27 : zft 213 27 = some (1, .iload_n 3) := by decide +kernel
theorem f_213_28 : zft 213 28 = some (3, .ifCond .lt 7) := by decide +kernel
theorem f_213_31 : zft 213 31 = some (1, .iload_n 3) := by decide +kernel
theorem f_213_32 : zft 213 32 = some (3, .goto 18) := by decide +kernel
theorem f_213_35 : zft 213 35 = some (2, .iload 4) := by decide +kernel
theorem f_213_37 : zft 213 37 = some (3, .ifCond .lt 11) := by decide +kernel
theorem f_213_40 : zft 213 40 = some (2, .bipush 20) := by decide +kernel
theorem f_213_42 : zft 213 42 = some (2, .iload 4) := by decide +kernel
theorem f_213_44 : zft 213 44 = some (1, .iadd) := by decide +kernel
theorem f_213_45 : zft 213 45 = some (3, .goto 5) := by decide +kernel
theorem f_213_48 : zft 213 48 = some (2, .bipush (-104)) := by decide +kernel
theorem f_213_50 : zft 213 50 = some (1, .ireturn) := by decide +kernel
theorem f_214_0 : zft 214 0 = some (1, .iload_n 1) := by decide +kernel
theorem f_214_1 : zft 214 1 = some (1, .iload_n 2) := by decide +kernel
theorem f_214_2 : zft 214 2 = some (3, .invokestatic 220) := by decide +kernel
theorem f_214_5 : zft 214 5 = some (3, .ifCond .ne 6) := by decide +kernel
theorem f_214_8 : zft 214 8 = some (2, .bipush (-101)) := by decide +kernel
theorem f_214_10 : zft 214 10 = some (1, .ireturn) := by decide +kernel
theorem f_214_11 : zft 214 11 = some (1, .aload_n 0) := by decide +kernel
theorem f_214_12 : zft 214 12 = some (1, .iload_n 1) := by decide +kernel
theorem f_214_13 : zft 214 13 = some (1, .iload_n 2) := by decide +kernel
theorem f_214_14 : zft 214 14 = some (3, .invokevirtual 82) := by decide +kernel
theorem f_214_17 : zft 214 17 = some (1, .istore_n 3) := by decide +kernel
theorem f_214_18 : zft 214 18 = some (1, .iload_n 3) := by decide +kernel
theorem f_214_19 : zft 214 19 = some (3, .ifCond .lt 78) := by decide +kernel
theorem f_214_22 : zft 214 22 = some (1, .iload_n 1) := by decide +kernel
theorem f_214_23 : zft 214 23 = some (1, .aload_n 0) := by decide +kernel
theorem f_214_24 : zft 214 24 = some (1, .iload_n 3) := by decide +kernel
theorem f_214_25 : zft 214 25 = some (3, .invokevirtual 66) := by decide +kernel
theorem f_214_28 : zft 214 28 = some (3, .if_icmp .ne 16) := by decide +kernel
theorem f_214_31 : zft 214 31 = some (1, .iload_n 2) := by decide +kernel
theorem f_214_32 : zft 214 32 = some (1, .aload_n 0) := by decide +kernel
theorem f_214_33 : zft 214 33 = some (1, .iload_n 3) := by decide +kernel
theorem f_214_34 : zft 214 34 = some (3, .invokevirtual 73) := by decide +kernel
theorem f_214_37 : zft 214 37 = some (3, .if_icmp .ne 7) := by decide +kernel
theorem f_214_40 : zft 214 40 = some (1, .iconst 1) := by decide +kernel
theorem f_214_41 : zft 214 41 = some (3, .goto 4) := by decide +kernel
theorem f_214_44 : zft 214 44 = some (1, .iconst 0) := by decide +kernel
theorem f_214_45 : zft 214 45 = some (2, .istore 4) := by decide +kernel
theorem f_214_47 : zft 214 47 = some (2, .iload 4) := by decide +kernel
theorem f_214_49 : zft 214 49 = some (3, .ifCond .ne 8) := by decide +kernel
theorem f_214_52 : zft 214 52 = some (2, .bipush 46) := by decide +kernel
theorem f_214_54 : zft 214 54 = some (3, .goto 42) := by decide +kernel
theorem f_214_57 : zft 214 57 = some (1, .iload_n 3) := by decide +kernel
theorem f_214_58 : zft 214 58 = some (1, .aload_n 0) := by decide +kernel
theorem f_214_59 : zft 214 59 = some (3, .getfield 7) := by decide +kernel
theorem f_214_62 : zft 214 62 = some (2, .bipush 122) := by decide +kernel
theorem f_214_64 : zft 214 64 = some (1, .iaload) := by decide +kernel
theorem f_214_65 : zft 214 65 = some (3, .if_icmp .ne 8) := by decide +kernel
theorem f_214_68 : zft 214 68 = some (2, .bipush 62) := by decide +kernel
theorem f_214_70 : zft 214 70 = some (3, .goto 26) := by decide +kernel
theorem f_214_73 : zft 214 73 = some (1, .aload_n 0) := by decide +kernel
theorem f_214_74 : zft 214 74 = some (1, .iload_n 3) := by decide +kernel
theorem f_214_75 : zft 214 75 = some (1, .iconst 4) := by decide +kernel
theorem f_214_76 : zft 214 76 = some (3, .invokevirtual 62) := by decide +kernel
theorem f_214_79 : zft 214 79 = some (3, .ifCond .lt 15) := by decide +kernel
theorem f_214_82 : zft 214 82 = some (2, .bipush 48) := by decide +kernel
theorem f_214_84 : zft 214 84 = some (1, .aload_n 0) := by decide +kernel
theorem f_214_85 : zft 214 85 = some (1, .iload_n 3) := by decide +kernel
theorem f_214_86 : zft 214 86 = some (1, .iconst 4) := by decide +kernel
theorem f_214_87 : zft 214 87 = some (3, .invokevirtual 62) := by decide +kernel
theorem f_214_90 : zft 214 90 = some (1, .iadd) := by decide +kernel
theorem f_214_91 : zft 214 91 = some (3, .goto 5) := by decide +kernel
theorem f_214_94 : zft 214 94 = some (2, .bipush 111) := by decide +kernel
theorem f_214_96 : zft 214 96 = some (1, .ireturn) := by decide +kernel
theorem f_214_97 : zft 214 97 = some (1, .aload_n 0) := by decide +kernel
theorem f_214_98 : zft 214 98 = some (1, .iload_n 1) := by decide +kernel
theorem f_214_99 : zft 214 99 = some (1, .iload_n 2) := by decide +kernel
theorem f_214_100 : zft 214 100 = some (1, .iconst 1) := by decide +kernel
theorem f_214_101 : zft 214 101 = some (3, .invokevirtual 224) := by decide +kernel
theorem f_214_104 : zft 214 104 = some (2, .istore 4) := by decide +kernel
theorem f_214_106 : zft 214 106 = some (2, .iload 4) := by decide +kernel
theorem f_214_108 : zft 214 108 = some (3, .ifCond .lt 16) := by decide +kernel
theorem f_214_111 : zft 214 111 = some (2, .bipush 97) := by decide +kernel
theorem f_214_113 : zft 214 113 = some (1, .aload_n 0) := by decide +kernel
theorem f_214_114 : zft 214 114 = some (2, .iload 4) := by decide +kernel
theorem f_214_116 : zft 214 116 = some (1, .iconst 2) := by decide +kernel
theorem f_214_117 : zft 214 117 = some (3, .invokevirtual 85) := by decide +kernel
theorem f_214_120 : zft 214 120 = some (1, .iadd) := by decide +kernel
theorem f_214_121 : zft 214 121 = some (3, .goto 20) := by decide +kernel
theorem f_214_124 : zft 214 124 = some (1, .aload_n 0) := by decide +kernel
theorem f_214_125 : zft 214 125 = some (1, .iload_n 1) := by decide +kernel
theorem f_214_126 : zft 214 126 = some (1, .iload_n 2) := by decide +kernel
theorem f_214_127 : zft 214 127 = some (1, .iconst 0) := by decide +kernel
theorem f_214_128 : zft 214 128 = some (3, .invokevirtual 224) := by decide +kernel
theorem f_214_131 : zft 214 131 = some (3, .ifCond .lt 8) := by decide +kernel
theorem f_214_134 : zft 214 134 = some (2, .bipush 43) := by decide +kernel
theorem f_214_136 : zft 214 136 = some (3, .goto 5) := by decide +kernel
theorem f_214_139 : zft 214 139 = some (2, .bipush 35) := by decide +kernel
theorem f_214_141 : zft 214 141 = some (1, .ireturn) := by decide +kernel
theorem f_215_0 : zft 215 0 = some (1, .aload_n 0) := by decide +kernel
theorem f_215_1 : zft 215 1 = some (1, .iload_n 1) := by decide +kernel
theorem f_215_2 : zft 215 2 = some (2, .bipush 24) := by decide +kernel
theorem f_215_4 : zft 215 4 = some (1, .irem) := by decide +kernel
theorem f_215_5 : zft 215 5 = some (1, .iload_n 1) := by decide +kernel
theorem f_215_6 : zft 215 6 = some (2, .bipush 24) := by decide +kernel
theorem f_215_8 : zft 215 8 = some (1, .idiv) := by decide +kernel
theorem f_215_9 : zft 215 9 = some (3, .invokevirtual 82) := by decide +kernel
theorem f_215_12 : zft 215 12 = some (3, .ifCond .ge 19) := by decide +kernel
theorem f_215_15 : zft 215 15 = some (1, .aload_n 0) := by decide +kernel
theorem f_215_16 : zft 215 16 = some (1, .iload_n 1) := by decide +kernel
theorem f_215_17 : zft 215 17 = some (2, .bipush 24) := by decide +kernel
theorem f_215_19 : zft 215 19 = some (1, .irem) := by decide +kernel
theorem f_215_20 : zft 215 20 = some (1, .iload_n 1) := by decide +kernel
theorem f_215_21 : zft 215 21 = some (2, .bipush 24) := by decide +kernel
theorem f_215_23 : zft 215 23 = some (1, .idiv) := by decide +kernel
theorem f_215_24 : zft 215 24 = some (1, .iconst 0) := by decide +kernel
theorem f_215_25 : zft 215 25 = some (3, .invokevirtual 224) := by decide +kernel
theorem f_215_28 : zft 215 28 = some (3, .ifCond .lt 7) := by decide +kernel
theorem f_215_31 : zft 215 31 = some (1, .iconst 1) := by decide +kernel
theorem f_215_32 : zft 215 32 = some (3, .goto 4) := by decide +kernel
theorem f_215_35 : zft 215 35 = some (1, .iconst 0) := by decide +kernel
theorem f_215_36 : zft 215 36 = some (1, .ireturn) := by decide +kernel
theorem f_216_0 : zft 216 0 = some (1, .iconst (-1)) := by decide +kernel
theorem f_216_1 : zft 216 1 = some (1, .istore_n 2) := by decide +kernel
theorem f_216_2 : zft 216 2 = some (1, .iload_n 1) := by decide +kernel
theorem f_216_3 : zft 216 3 = some (2, .bipush 24) := by decide +kernel
theorem f_216_5 : zft 216 5 = some (1, .irem) := by decide +kernel
theorem f_216_6 : zft 216 6 = some (1, .istore_n 3) := by decide +kernel
theorem f_216_7 : zft 216 7 = some (1, .iconst 0) := by decide +kernel
theorem f_216_8 : zft 216 8 = some (2, .istore 4) := by decide +kernel
theorem f_216_10 : zft 216 10 = some (2, .iload 4) := by decide +kernel
theorem f_216_12 : zft 216 12 = some (1, .iconst 4) := by decide +kernel
theorem f_216_13 : zft 216 13 = some (3, .if_icmp .ge 159) := by decide +kernel
theorem f_216_16 : zft 216 16 = some (2, .iload 4) := by decide +kernel
theorem f_216_18 : zft 216 18 = some (3, .ifCond .ne 15) := by decide +kernel
theorem f_216_21 : zft 216 21 = some (1, .iload_n 3) := by decide +kernel
theorem f_216_22 : zft 216 22 = some (3, .ifCond .le 7) := by decide +kernel
theorem f_216_25 : zft 216 25 = some (1, .iconst 1) := by decide +kernel
theorem f_216_26 : zft 216 26 = some (3, .goto 59) := by decide +kernel
theorem f_216_29 : zft 216 29 = some (1, .iconst 0) := by decide +kernel
theorem f_216_30 : zft 216 30 = some (3, .goto 55) := by decide +kernel
theorem f_216_33 : zft 216 33 = some (2, .iload 4) := by decide +kernel
theorem f_216_35 : zft 216 35 = some (1, .iconst 1) := by decide +kernel
theorem f_216_36 : zft 216 36 = some (3, .if_icmp .ne 17) := by decide +kernel
theorem f_216_39 : zft 216 39 = some (1, .iload_n 3) := by decide +kernel
theorem f_216_40 : zft 216 40 = some (2, .bipush 23) := by decide +kernel
theorem f_216_42 : zft 216 42 = some (3, .if_icmp .ge 7) := by decide +kernel
theorem f_216_45 : zft 216 45 = some (1, .iconst 1) := by decide +kernel
theorem f_216_46 : zft 216 46 = some (3, .goto 39) := by decide +kernel
theorem f_216_49 : zft 216 49 = some (1, .iconst 0) := by decide +kernel
theorem f_216_50 : zft 216 50 = some (3, .goto 35) := by decide +kernel
theorem f_216_53 : zft 216 53 = some (2, .iload 4) := by decide +kernel
theorem f_216_55 : zft 216 55 = some (1, .iconst 2) := by decide +kernel
theorem f_216_56 : zft 216 56 = some (3, .if_icmp .ne 17) := by decide +kernel
theorem f_216_59 : zft 216 59 = some (1, .iload_n 1) := by decide +kernel
theorem f_216_60 : zft 216 60 = some (2, .bipush 24) := by decide +kernel
theorem f_216_62 : zft 216 62 = some (3, .if_icmp .lt 7) := by decide +kernel
theorem f_216_65 : zft 216 65 = some (1, .iconst 1) := by decide +kernel
theorem f_216_66 : zft 216 66 = some (3, .goto 19) := by decide +kernel
theorem f_216_69 : zft 216 69 = some (1, .iconst 0) := by decide +kernel
theorem f_216_70 : zft 216 70 = some (3, .goto 15) := by decide +kernel
theorem f_216_73 : zft 216 73 = some (1, .iload_n 1) := by decide +kernel
theorem f_216_74 : zft 216 74 = some (3, .sipush 360) := by decide +kernel
theorem f_216_77 : zft 216 77 = some (3, .if_icmp .ge 7) := by decide +kernel
theorem f_216_80 : zft 216 80 = some (1, .iconst 1) := by decide +kernel
theorem f_216_81 : zft 216 81 = some (3, .goto 4) := by decide +kernel
theorem f_216_84 : zft 216 84 = some (1, .iconst 0) := by decide +kernel
theorem f_216_85 : zft 216 85 = some (2, .istore 5) := by decide +kernel
theorem f_216_87 : zft 216 87 = some (1, .iload_n 1) := by decide +kernel
theorem f_216_88 : zft 216 88 = some (2, .iload 4) := by decide +kernel
theorem f_216_90 : zft 216 90 = some (3, .ifCond .ne 7) := by decide +kernel
theorem f_216_93 : zft 216 93 = some (1, .iconst (-1)) := by decide +kernel
theorem f_216_94 : zft 216 94 = some (3, .goto 26) := by decide +kernel
theorem f_216_97 : zft 216 97 = some (2, .iload 4) := by decide +kernel
theorem f_216_99 : zft 216 99 = some (1, .iconst 1) := by decide +kernel
theorem f_216_100 : zft 216 100 = some (3, .if_icmp .ne 7) := by decide +kernel
theorem f_216_103 : zft 216 103 = some (1, .iconst 1) := by decide +kernel
theorem f_216_104 : zft 216 104 = some (3, .goto 16) := by decide +kernel
theorem f_216_107 : zft 216 107 = some (2, .iload 4) := by decide +kernel
theorem f_216_109 : zft 216 109 = some (1, .iconst 2) := by decide +kernel
theorem f_216_110 : zft 216 110 = some (3, .if_icmp .ne 8) := by decide +kernel
theorem f_216_113 : zft 216 113 = some (2, .bipush (-24)) := by decide +kernel
theorem f_216_115 : zft 216 115 = some (3, .goto 5) := by decide +kernel
theorem f_216_118 : zft 216 118 = some (2, .bipush 24) := by decide +kernel
theorem f_216_120 : zft 216 120 = some (1, .iadd) := by decide +kernel
theorem f_216_121 : zft 216 121 = some (2, .istore 6) := by decide +kernel
theorem f_216_123 : zft 216 123 = some (2, .iload 5) := by decide +kernel
theorem f_216_125 : zft 216 125 = some (3, .ifCond .eq 39) := by decide +kernel
theorem f_216_128 : zft 216 128 = some (1, .aload_n 0) := by decide +kernel
theorem f_216_129 : zft 216 129 = some (3, .getfield 49) := by decide +kernel
theorem f_216_132 : zft 216 132 = some (2, .iload 6) := by decide +kernel
theorem f_216_134 : zft 216 134 = some (1, .iaload) := by decide +kernel
theorem f_216_135 : zft 216 135 = some (3, .ifCond .lt 29) := by decide +kernel
theorem f_216_138 : zft 216 138 = some (1, .iload_n 2) := by decide +kernel
theorem f_216_139 : zft 216 139 = some (1, .iconst (-1)) := by decide +kernel
theorem f_216_140 : zft 216 140 = some (3, .if_icmp .eq 14) := by decide +kernel
theorem f_216_143 : zft 216 143 = some (1, .aload_n 0) := by decide +kernel
theorem f_216_144 : zft 216 144 = some (3, .getfield 49) := by decide +kernel
theorem f_216_147 : zft 216 147 = some (2, .iload 6) := by decide +kernel
theorem f_216_149 : zft 216 149 = some (1, .iaload) := by decide +kernel
theorem f_216_150 : zft 216 150 = some (1, .iload_n 2) := by decide +kernel
theorem f_216_151 : zft 216 151 = some (3, .if_icmp .ge 13) := by decide +kernel
theorem f_216_154 : zft 216 154 = some (1, .aload_n 0) := by decide +kernel
theorem f_216_155 : zft 216 155 = some (3, .getfield 49) := by decide +kernel
theorem f_216_158 : zft 216 158 = some (2, .iload 6) := by decide +kernel
theorem f_216_160 : zft 216 160 = some (1, .iaload) := by decide +kernel
theorem f_216_161 : zft 216 161 = some (3, .goto 4) := by decide +kernel
theorem f_216_164 : zft 216 164 = some (1, .iload_n 2) := by decide +kernel
theorem f_216_165 : zft 216 165 = some (1, .istore_n 2) := by decide +kernel
theorem f_216_166 : zft 216 166 = some (3, .iinc 4 1) := by decide +kernel
theorem f_216_169 : zft 216 169 = some (3, .goto (-159)) := by decide +kernel
theorem f_216_172 : zft 216 172 = some (1, .iload_n 2) := by decide +kernel
theorem f_216_173 : zft 216 173 = some (1, .ireturn) := by decide +kernel
theorem f_217_0 : zft 217 0 = some (1, .iload_n 1) := by decide +kernel
theorem f_217_1 : zft 217 1 = some (1, .iload_n 2) := by decide +kernel
theorem f_217_2 : zft 217 2 = some (3, .invokestatic 220) := by decide +kernel
theorem f_217_5 : zft 217 5 = some (3, .ifCond .eq 12) := by decide +kernel
theorem f_217_8 : zft 217 8 = some (1, .iload_n 3) := by decide +kernel
theorem f_217_9 : zft 217 9 = some (2, .iload 4) := by decide +kernel
theorem f_217_11 : zft 217 11 = some (3, .invokestatic 220) := by decide +kernel
theorem f_217_14 : zft 217 14 = some (3, .ifCond .ne 6) := by decide +kernel
theorem f_217_17 : zft 217 17 = some (2, .bipush (-101)) := by decide +kernel
theorem f_217_19 : zft 217 19 = some (1, .ireturn) := by decide +kernel
theorem f_217_20 : zft 217 20 = some (1, .aload_n 0) := by decide +kernel
theorem f_217_21 : zft 217 21 = some (2, .bipush 24) := by decide +kernel
theorem f_217_23 : zft 217 23 = some (1, .iload_n 2) := by decide +kernel
theorem f_217_24 : zft 217 24 = some (1, .imul) := by decide +kernel
theorem f_217_25 : zft 217 25 = some (1, .iload_n 1) := by decide +kernel
theorem f_217_26 : zft 217 26 = some (1, .iadd) := by decide +kernel
theorem f_217_27 : zft 217 27 = some (3, .invokevirtual 228) := by decide +kernel
theorem f_217_30 : zft 217 30 = some (3, .ifCond .eq 17) := by decide +kernel
theorem f_217_33 : zft 217 33 = some (1, .aload_n 0) := by decide +kernel
theorem f_217_34 : zft 217 34 = some (2, .bipush 24) := by decide +kernel
theorem f_217_36 : zft 217 36 = some (2, .iload 4) := by decide +kernel
theorem f_217_38 : zft 217 38 = some (1, .imul) := by decide +kernel
theorem f_217_39 : zft 217 39 = some (1, .iload_n 3) := by decide +kernel
theorem f_217_40 : zft 217 40 = some (1, .iadd) := by decide +kernel
theorem f_217_41 : zft 217 41 = some (3, .invokevirtual 228) := by decide +kernel
theorem f_217_44 : zft 217 44 = some (3, .ifCond .ne 6) := by decide +kernel
theorem f_217_47 : zft 217 47 = some (2, .bipush (-102)) := by decide +kernel
theorem f_217_49 : zft 217 49 = some (1, .ireturn) := by decide +kernel
theorem f_217_50 : zft 217 50 = some (1, .iconst 0) := by decide +kernel
theorem f_217_51 : zft 217 51 = some (2, .istore 5) := by decide +kernel
theorem f_217_53 : zft 217 53 = some (2, .iload 5) := by decide +kernel
theorem f_217_55 : zft 217 55 = some (3, .sipush 384) := by decide +kernel
theorem f_217_58 : zft 217 58 = some (3, .if_icmp .ge 45) := by decide +kernel
theorem f_217_61 : zft 217 61 = some (1, .aload_n 0) := by decide +kernel
theorem f_217_62 : zft 217 62 = some (3, .getfield 49) := by decide +kernel
theorem f_217_65 : zft 217 65 = some (2, .iload 5) := by decide +kernel
theorem f_217_67 : zft 217 67 = some (2, .iload 5) := by decide +kernel
theorem f_217_69 : zft 217 69 = some (2, .bipush 24) := by decide +kernel
theorem f_217_71 : zft 217 71 = some (1, .iload_n 2) := by decide +kernel
theorem f_217_72 : zft 217 72 = some (1, .imul) := by decide +kernel
theorem f_217_73 : zft 217 73 = some (1, .iload_n 1) := by decide +kernel
theorem f_217_74 : zft 217 74 = some (1, .iadd) := by decide +kernel
theorem f_217_75 : zft 217 75 = some (3, .if_icmp .ne 7) := by decide +kernel
theorem f_217_78 : zft 217 78 = some (1, .iconst 0) := by decide +kernel
theorem f_217_79 : zft 217 79 = some (3, .goto 4) := by decide +kernel
theorem f_217_82 : zft 217 82 = some (1, .iconst (-1)) := by decide +kernel
theorem f_217_83 : zft 217 83 = some (1, .iastore) := by decide +kernel
theorem f_217_84 : zft 217 84 = some (1, .aload_n 0) := by decide +kernel
theorem f_217_85 : zft 217 85 = some (3, .getfield 52) := by decide +kernel
theorem f_217_88 : zft 217 88 = some (2, .iload 5) := by decide +kernel
theorem f_217_90 : zft 217 90 = some (1, .aload_n 0) := by decide +kernel
theorem f_217_91 : zft 217 91 = some (2, .iload 5) := by decide +kernel
theorem f_217_93 : zft 217 93 = some (3, .invokevirtual 228) := by decide +kernel
theorem f_217_96 : zft 217 96 = some (1, .bastore) := by decide +kernel
theorem f_217_97 : zft 217 97 = some (3, .iinc 5 1) := by decide +kernel
theorem f_217_100 : zft 217 100 = some (3, .goto (-47)) := by decide +kernel
theorem f_217_103 : zft 217 103 = some (1, .iconst 1) := by decide +kernel
theorem f_217_104 : zft 217 104 = some (2, .istore 5) := by decide +kernel
theorem f_217_106 : zft 217 106 = some (1, .iconst 1) := by decide +kernel
theorem f_217_107 : zft 217 107 = some (2, .istore 6) := by decide +kernel
theorem f_217_109 : zft 217 109 = some (2, .iload 5) := by decide +kernel
theorem f_217_111 : zft 217 111 = some (3, .ifCond .eq 75) := by decide +kernel
theorem f_217_114 : zft 217 114 = some (1, .iconst 0) := by decide +kernel
theorem f_217_115 : zft 217 115 = some (2, .istore 5) := by decide +kernel
theorem f_217_117 : zft 217 117 = some (1, .iconst 0) := by decide +kernel
theorem f_217_118 : zft 217 118 = some (2, .istore 7) := by decide +kernel
theorem f_217_120 : zft 217 120 = some (2, .iload 7) := by decide +kernel
theorem f_217_122 : zft 217 122 = some (3, .sipush 384) := by decide +kernel
theorem f_217_125 : zft 217 125 = some (3, .if_icmp .ge 55) := by decide +kernel
theorem f_217_128 : zft 217 128 = some (1, .aload_n 0) := by decide +kernel
theorem f_217_129 : zft 217 129 = some (3, .getfield 52) := by decide +kernel
theorem f_217_132 : zft 217 132 = some (2, .iload 7) := by decide +kernel
theorem f_217_134 : zft 217 134 = some (1, .baload) := by decide +kernel
theorem f_217_135 : zft 217 135 = some (3, .ifCond .eq 39) := by decide +kernel
theorem f_217_138 : zft 217 138 = some (1, .aload_n 0) := by decide +kernel
theorem f_217_139 : zft 217 139 = some (3, .getfield 49) := by decide +kernel
theorem f_217_142 : zft 217 142 = some (2, .iload 7) := by decide +kernel
theorem f_217_144 : zft 217 144 = some (1, .iaload) := by decide +kernel
theorem f_217_145 : zft 217 145 = some (1, .iconst (-1)) := by decide +kernel
theorem f_217_146 : zft 217 146 = some (3, .if_icmp .ne 28) := by decide +kernel
theorem f_217_149 : zft 217 149 = some (1, .aload_n 0) := by decide +kernel
theorem f_217_150 : zft 217 150 = some (2, .iload 7) := by decide +kernel
theorem f_217_152 : zft 217 152 = some (3, .invokevirtual 231) := by decide +kernel
theorem f_217_155 : zft 217 155 = some (2, .iload 6) := by decide +kernel
theorem f_217_157 : zft 217 157 = some (1, .iconst 1) := by decide +kernel
theorem f_217_158 : zft 217 158 = some (1, .isub) := by decide +kernel
theorem f_217_159 : zft 217 159 = some (3, .if_icmp .ne 15) := by decide +kernel
theorem f_217_162 : zft 217 162 = some (1, .aload_n 0) := by decide +kernel
theorem f_217_163 : zft 217 163 = some (3, .getfield 49) := by decide +kernel
theorem f_217_166 : zft 217 166 = some (2, .iload 7) := by decide +kernel
theorem f_217_168 : zft 217 168 = some (2, .iload 6) := by decide +kernel
theorem f_217_170 : zft 217 170 = some (1, .iastore) := by decide +kernel
theorem f_217_171 : zft 217 171 = some (1, .iconst 1) := by decide +kernel
theorem f_217_172 : zft 217 172 = some (2, .istore 5) := by decide +kernel
theorem f_217_174 : zft 217 174 = some (3, .iinc 7 1) := by decide +kernel
theorem f_217_177 : zft 217 177 = some (3, .goto (-57)) := by decide +kernel
theorem f_217_180 : zft 217 180 = some (3, .iinc 6 1) := by decide +kernel
theorem f_217_183 : zft 217 183 = some (3, .goto (-74)) := by decide +kernel
theorem f_217_186 : zft 217 186 = some (1, .aload_n 0) := by decide +kernel
theorem f_217_187 : zft 217 187 = some (3, .getfield 49) := by decide +kernel
theorem f_217_190 : zft 217 190 = some (2, .bipush 24) := by decide +kernel
theorem f_217_192 : zft 217 192 = some (2, .iload 4) := by decide +kernel
theorem f_217_194 : zft 217 194 = some (1, .imul) := by decide +kernel
theorem f_217_195 : zft 217 195 = some (1, .iload_n 3) := by decide +kernel
theorem f_217_196 : zft 217 196 = some (1, .iadd) := by decide +kernel
theorem f_217_197 : zft 217 197 = some (1, .iaload) := by decide +kernel
theorem f_217_198 : zft 217 198 = some (2, .istore 6) := by decide +kernel
theorem f_217_200 : zft 217 200 = some (2, .iload 6) := by decide +kernel
theorem f_217_202 : zft 217 202 = some (1, .iconst (-1)) := by decide +kernel
theorem f_217_203 : zft 217 203 = some (3, .if_icmp .ne 8) := by decide +kernel
theorem f_217_206 : zft 217 206 = some (2, .bipush (-104)) := by decide +kernel
theorem f_217_208 : zft 217 208 = some (3, .goto 5) := by decide +kernel
theorem f_217_211 : zft 217 211 = some (2, .iload 6) := by decide +kernel
theorem f_217_213 : zft 217 213 = some (1, .ireturn) := by decide +kernel
theorem f_218_0 : zft 218 0 = some (1, .iconst 0) := by decide +kernel
theorem f_218_1 : zft 218 1 = some (1, .istore_n 2) := by decide +kernel
theorem f_218_2 : zft 218 2 = some (1, .iconst 0) := by decide +kernel
theorem f_218_3 : zft 218 3 = some (1, .istore_n 3) := by decide +kernel
theorem f_218_4 : zft 218 4 = some (1, .iconst 0) := by decide +kernel
theorem f_218_5 : zft 218 5 = some (2, .istore 4) := by decide +kernel
theorem f_218_7 : zft 218 7 = some (2, .iload 4) := by decide +kernel
theorem f_218_9 : zft 218 9 = some (1, .aload_n 0) := by decide +kernel
theorem f_218_10 : zft 218 10 = some (3, .getfield 7) := by decide +kernel
theorem f_218_13 : zft 218 13 = some (2, .bipush 120) := by decide +kernel
theorem f_218_15 : zft 218 15 = some (1, .iaload) := by decide +kernel
theorem f_218_16 : zft 218 16 = some (3, .if_icmp .ge 70) := by decide +kernel
theorem f_218_19 : zft 218 19 = some (1, .iload_n 3) := by decide +kernel
theorem f_218_20 : zft 218 20 = some (2, .iload 4) := by decide +kernel
theorem f_218_22 : zft 218 22 = some (1, .ishr) := by decide +kernel
theorem f_218_23 : zft 218 23 = some (1, .iconst 1) := by decide +kernel
theorem f_218_24 : zft 218 24 = some (1, .iand) := by decide +kernel
theorem f_218_25 : zft 218 25 = some (3, .ifCond .ne 55) := by decide +kernel
theorem f_218_28 : zft 218 28 = some (3, .iinc 2 1) := by decide +kernel
theorem f_218_31 : zft 218 31 = some (1, .aload_n 0) := by decide +kernel
theorem f_218_32 : zft 218 32 = some (2, .iload 4) := by decide +kernel
theorem f_218_34 : zft 218 34 = some (1, .iload_n 1) := by decide +kernel
theorem f_218_35 : zft 218 35 = some (3, .invokevirtual 154) := by decide +kernel
theorem f_218_38 : zft 218 38 = some (1, .iconst 0) := by decide +kernel
theorem f_218_39 : zft 218 39 = some (2, .istore 5) := by decide +kernel
theorem f_218_41 : zft 218 41 = some (2, .iload 5) := by decide +kernel
theorem f_218_43 : zft 218 43 = some (1, .aload_n 0) := by decide +kernel
theorem f_218_44 : zft 218 44 = some (3, .getfield 7) := by decide +kernel
theorem f_218_47 : zft 218 47 = some (2, .bipush 120) := by decide +kernel
theorem f_218_49 : zft 218 49 = some (1, .iaload) := by decide +kernel
theorem f_218_50 : zft 218 50 = some (3, .if_icmp .ge 30) := by decide +kernel
theorem f_218_53 : zft 218 53 = some (1, .iload_n 3) := by decide +kernel
theorem f_218_54 : zft 218 54 = some (1, .aload_n 0) := by decide +kernel
theorem f_218_55 : zft 218 55 = some (3, .getfield 28) := by decide +kernel
theorem f_218_58 : zft 218 58 = some (2, .iload 5) := by decide +kernel
theorem f_218_60 : zft 218 60 = some (1, .iaload) := by decide +kernel
theorem f_218_61 : zft 218 61 = some (3, .ifCond .lt 10) := by decide +kernel
theorem f_218_64 : zft 218 64 = some (1, .iconst 1) := by decide +kernel
theorem f_218_65 : zft 218 65 = some (2, .iload 5) := by decide +kernel
theorem f_218_67 : zft 218 67 = some (1, .ishl) := by decide +kernel
theorem f_218_68 : zft 218 68 = some (3, .goto 4) := by decide +kernel
theorem f_218_71 : zft 218 71 = some (1, .iconst 0) := by decide +kernel
theorem f_218_72 : zft 218 72 = some (1, .ior) := by decide +kernel
theorem f_218_73 : zft 218 73 = some (1, .istore_n 3) := by decide +kernel
theorem f_218_74 : zft 218 74 = some (3, .iinc 5 1) := by decide +kernel
theorem f_218_77 : zft 218 77 = some (3, .goto (-36)) := by decide +kernel
theorem f_218_80 : zft 218 80 = some (3, .iinc 4 1) := by decide +kernel
theorem f_218_83 : zft 218 83 = some (3, .goto (-76)) := by decide +kernel
theorem f_218_86 : zft 218 86 = some (1, .iload_n 2) := by decide +kernel
theorem f_218_87 : zft 218 87 = some (1, .ireturn) := by decide +kernel
theorem f_219_0 : zft 219 0 = some (1, .iconst 0) := by decide +kernel
theorem f_219_1 : zft 219 1 = some (1, .istore_n 2) := by decide +kernel
theorem f_219_2 : zft 219 2 = some (1, .iload_n 1) := by decide +kernel
theorem f_219_3 : zft 219 3 = some (53, .tableswitch 314 0 9 #[53, 61, 69, 107, 145, 182, 223, 261, 267, 309]) := by decide +kernel
theorem f_219_56 : zft 219 56 = some (1, .aload_n 0) := by decide +kernel
theorem f_219_57 : zft 219 57 = some (3, .getfield 7) := by decide +kernel
theorem f_219_60 : zft 219 60 = some (2, .bipush 120) := by decide +kernel
theorem f_219_62 : zft 219 62 = some (1, .iaload) := by decide +kernel
theorem f_219_63 : zft 219 63 = some (1, .ireturn) := by decide +kernel
theorem f_219_64 : zft 219 64 = some (1, .aload_n 0) := by decide +kernel
theorem f_219_65 : zft 219 65 = some (3, .getfield 7) := by decide +kernel
theorem f_219_68 : zft 219 68 = some (2, .bipush 121) := by decide +kernel
theorem f_219_70 : zft 219 70 = some (1, .iaload) := by decide +kernel
theorem f_219_71 : zft 219 71 = some (1, .ireturn) := by decide +kernel
theorem f_219_72 : zft 219 72 = some (1, .iconst 0) := by decide +kernel
theorem f_219_73 : zft 219 73 = some (1, .istore_n 3) := by decide +kernel
theorem f_219_74 : zft 219 74 = some (1, .iload_n 3) := by decide +kernel
theorem f_219_75 : zft 219 75 = some (1, .aload_n 0) := by decide +kernel
theorem f_219_76 : zft 219 76 = some (3, .getfield 7) := by decide +kernel
theorem f_219_79 : zft 219 79 = some (2, .bipush 121) := by decide +kernel
theorem f_219_81 : zft 219 81 = some (1, .iaload) := by decide +kernel
theorem f_219_82 : zft 219 82 = some (3, .if_icmp .ge 26) := by decide +kernel
theorem f_219_85 : zft 219 85 = some (1, .iload_n 2) := by decide +kernel
theorem f_219_86 : zft 219 86 = some (1, .aload_n 0) := by decide +kernel
theorem f_219_87 : zft 219 87 = some (1, .iload_n 3) := by decide +kernel
theorem f_219_88 : zft 219 88 = some (1, .iconst 2) := by decide +kernel
theorem f_219_89 : zft 219 89 = some (3, .invokevirtual 85) := by decide +kernel
theorem f_219_92 : zft 219 92 = some (3, .ifCond .lt 7) := by decide +kernel
theorem f_219_95 : zft 219 95 = some (1, .iconst 1) := by decide +kernel
theorem f_219_96 : zft 219 96 = some (3, .goto 4) := by decide +kernel
theorem f_219_99 : zft 219 99 = some (1, .iconst 0) := by decide +kernel
theorem f_219_100 : zft 219 100 = some (1, .iadd) := by decide +kernel
theorem f_219_101 : zft 219 101 = some (1, .istore_n 2) := by decide +kernel
theorem f_219_102 : zft 219 102 = some (3, .iinc 3 1) := by decide +kernel
theorem f_219_105 : zft 219 105 = some (3, .goto (-31)) := by decide +kernel
theorem f_219_108 : zft 219 108 = some (1, .iload_n 2) := by decide +kernel
theorem f_219_109 : zft 219 109 = some (1, .ireturn) := by decide +kernel
theorem f_219_110 : zft 219 110 = some (1, .iconst 0) := by decide +kernel
theorem f_219_111 : zft 219 111 = some (1, .istore_n 3) := by decide +kernel
theorem f_219_112 : zft 219 112 = some (1, .iload_n 3) := by decide +kernel
theorem f_219_113 : zft 219 113 = some (1, .aload_n 0) := by decide +kernel
theorem f_219_114 : zft 219 114 = some (3, .getfield 7) := by decide +kernel
theorem f_219_117 : zft 219 117 = some (2, .bipush 120) := by decide +kernel
theorem f_219_119 : zft 219 119 = some (1, .iaload) := by decide +kernel
theorem f_219_120 : zft 219 120 = some (3, .if_icmp .ge 26) := by decide +kernel
theorem f_219_123 : zft 219 123 = some (1, .iload_n 2) := by decide +kernel
theorem f_219_124 : zft 219 124 = some (1, .aload_n 0) := by decide +kernel
theorem f_219_125 : zft 219 125 = some (1, .iload_n 3) := by decide +kernel
theorem f_219_126 : zft 219 126 = some (1, .iconst 4) := by decide +kernel
theorem f_219_127 : zft 219 127 = some (3, .invokevirtual 62) := by decide +kernel
theorem f_219_130 : zft 219 130 = some (3, .ifCond .lt 7) := by decide +kernel
theorem f_219_133 : zft 219 133 = some (1, .iconst 1) := by decide +kernel
theorem f_219_134 : zft 219 134 = some (3, .goto 4) := by decide +kernel
theorem f_219_137 : zft 219 137 = some (1, .iconst 0) := by decide +kernel
theorem f_219_138 : zft 219 138 = some (1, .iadd) := by decide +kernel
theorem f_219_139 : zft 219 139 = some (1, .istore_n 2) := by decide +kernel
theorem f_219_140 : zft 219 140 = some (3, .iinc 3 1) := by decide +kernel
theorem f_219_143 : zft 219 143 = some (3, .goto (-31)) := by decide +kernel
theorem f_219_146 : zft 219 146 = some (1, .iload_n 2) := by decide +kernel
theorem f_219_147 : zft 219 147 = some (1, .ireturn) := by decide +kernel
theorem f_219_148 : zft 219 148 = some (1, .iconst 0) := by decide +kernel
theorem f_219_149 : zft 219 149 = some (1, .istore_n 3) := by decide +kernel
theorem f_219_150 : zft 219 150 = some (1, .iload_n 3) := by decide +kernel
theorem f_219_151 : zft 219 151 = some (1, .aload_n 0) := by decide +kernel
theorem f_219_152 : zft 219 152 = some (3, .getfield 7) := by decide +kernel
theorem f_219_155 : zft 219 155 = some (2, .bipush 120) := by decide +kernel
theorem f_219_157 : zft 219 157 = some (1, .iaload) := by decide +kernel
theorem f_219_158 : zft 219 158 = some (3, .if_icmp .ge 25) := by decide +kernel
theorem f_219_161 : zft 219 161 = some (1, .iload_n 2) := by decide +kernel
theorem f_219_162 : zft 219 162 = some (1, .aload_n 0) := by decide +kernel
theorem f_219_163 : zft 219 163 = some (1, .iload_n 3) := by decide +kernel
theorem f_219_164 : zft 219 164 = some (1, .iconst 2) := by decide +kernel
theorem f_219_165 : zft 219 165 = some (3, .invokevirtual 62) := by decide +kernel
theorem f_219_168 : zft 219 168 = some (1, .aload_n 0) := by decide +kernel
theorem f_219_169 : zft 219 169 = some (1, .iload_n 3) := by decide +kernel
theorem f_219_170 : zft 219 170 = some (1, .iconst 3) := by decide +kernel
theorem f_219_171 : zft 219 171 = some (3, .invokevirtual 62) := by decide +kernel
theorem f_219_174 : zft 219 174 = some (1, .imul) := by decide +kernel
theorem f_219_175 : zft 219 175 = some (1, .iadd) := by decide +kernel
theorem f_219_176 : zft 219 176 = some (1, .istore_n 2) := by decide +kernel
theorem f_219_177 : zft 219 177 = some (3, .iinc 3 1) := by decide +kernel
theorem f_219_180 : zft 219 180 = some (3, .goto (-30)) := by decide +kernel
theorem f_219_183 : zft 219 183 = some (1, .iload_n 2) := by decide +kernel
theorem f_219_184 : zft 219 184 = some (1, .ireturn) := by decide +kernel
theorem f_219_185 : zft 219 185 = some (1, .iconst 0) := by decide +kernel
theorem f_219_186 : zft 219 186 = some (1, .istore_n 3) := by decide +kernel
theorem f_219_187 : zft 219 187 = some (1, .iload_n 3) := by decide +kernel
theorem f_219_188 : zft 219 188 = some (3, .sipush 384) := by decide +kernel
theorem f_219_191 : zft 219 191 = some (3, .if_icmp .ge 33) := by decide +kernel
theorem f_219_194 : zft 219 194 = some (1, .iload_n 2) := by decide +kernel
theorem f_219_195 : zft 219 195 = some (1, .aload_n 0) := by decide +kernel
theorem f_219_196 : zft 219 196 = some (1, .iload_n 3) := by decide +kernel
theorem f_219_197 : zft 219 197 = some (2, .bipush 24) := by decide +kernel
theorem f_219_199 : zft 219 199 = some (1, .irem) := by decide +kernel
theorem f_219_200 : zft 219 200 = some (1, .iload_n 3) := by decide +kernel
theorem f_219_201 : zft 219 201 = some (2, .bipush 24) := by decide +kernel
theorem f_219_203 : zft 219 203 = some (1, .idiv) := by decide +kernel
theorem f_219_204 : zft 219 204 = some (1, .iconst 0) := by decide +kernel
theorem f_219_205 : zft 219 205 = some (3, .invokevirtual 224) := by decide +kernel
theorem f_219_208 : zft 219 208 = some (3, .ifCond .lt 7) := by decide +kernel
theorem f_219_211 : zft 219 211 = some (1, .iconst 1) := by decide +kernel
theorem f_219_212 : zft 219 212 = some (3, .goto 4) := by decide +kernel
theorem f_219_215 : zft 219 215 = some (1, .iconst 0) := by decide +kernel
theorem f_219_216 : zft 219 216 = some (1, .iadd) := by decide +kernel
theorem f_219_217 : zft 219 217 = some (1, .istore_n 2) := by decide +kernel
theorem f_219_218 : zft 219 218 = some (3, .iinc 3 1) := by decide +kernel
theorem f_219_221 : zft 219 221 = some (3, .goto (-34)) := by decide +kernel
theorem f_219_224 : zft 219 224 = some (1, .iload_n 2) := by decide +kernel
theorem f_219_225 : zft 219 225 = some (1, .ireturn) := by decide +kernel
theorem f_219_226 : zft 219 226 = some (1, .iconst 0) := by decide +kernel
theorem f_219_227 : zft 219 227 = some (1, .istore_n 3) := by decide +kernel
theorem f_219_228 : zft 219 228 = some (1, .iload_n 3) := by decide +kernel
theorem f_219_229 : zft 219 229 = some (1, .aload_n 0) := by decide +kernel
theorem f_219_230 : zft 219 230 = some (3, .getfield 7) := by decide +kernel
theorem f_219_233 : zft 219 233 = some (2, .bipush 120) := by decide +kernel
theorem f_219_235 : zft 219 235 = some (1, .iaload) := by decide +kernel
theorem f_219_236 : zft 219 236 = some (3, .if_icmp .ge 26) := by decide +kernel
theorem f_219_239 : zft 219 239 = some (1, .iload_n 2) := by decide +kernel
theorem f_219_240 : zft 219 240 = some (1, .aload_n 0) := by decide +kernel
theorem f_219_241 : zft 219 241 = some (1, .iload_n 3) := by decide +kernel
theorem f_219_242 : zft 219 242 = some (3, .invokevirtual 161) := by decide +kernel
theorem f_219_245 : zft 219 245 = some (1, .iconst 1) := by decide +kernel
theorem f_219_246 : zft 219 246 = some (3, .if_icmp .ne 7) := by decide +kernel
theorem f_219_249 : zft 219 249 = some (1, .iconst 1) := by decide +kernel
theorem f_219_250 : zft 219 250 = some (3, .goto 4) := by decide +kernel
theorem f_219_253 : zft 219 253 = some (1, .iconst 0) := by decide +kernel
theorem f_219_254 : zft 219 254 = some (1, .iadd) := by decide +kernel
theorem f_219_255 : zft 219 255 = some (1, .istore_n 2) := by decide +kernel
theorem f_219_256 : zft 219 256 = some (3, .iinc 3 1) := by decide +kernel
theorem f_219_259 : zft 219 259 = some (3, .goto (-31)) := by decide +kernel
theorem f_219_262 : zft 219 262 = some (1, .iload_n 2) := by decide +kernel
theorem f_219_263 : zft 219 263 = some (1, .ireturn) := by decide +kernel
theorem f_219_264 : zft 219 264 = some (1, .aload_n 0) := by decide +kernel
theorem f_219_265 : zft 219 265 = some (1, .iconst (-1)) := by decide +kernel
theorem f_219_266 : zft 219 266 = some (3, .invokevirtual 234) := by decide +kernel
theorem f_219_269 : zft 219 269 = some (1, .ireturn) := by decide +kernel
theorem f_219_270 : zft 219 270 = some (1, .iconst 0) := by decide +kernel
theorem f_219_271 : zft 219 271 = some (1, .istore_n 3) := by decide +kernel
theorem f_219_272 : zft 219 272 = some (1, .iload_n 3) := by decide +kernel
theorem f_219_273 : zft 219 273 = some (1, .aload_n 0) := by decide +kernel
theorem f_219_274 : zft 219 274 = some (3, .getfield 7) := by decide +kernel
theorem f_219_277 : zft 219 277 = some (2, .bipush 121) := by decide +kernel
theorem f_219_279 : zft 219 279 = some (1, .iaload) := by decide +kernel
theorem f_219_280 : zft 219 280 = some (3, .if_icmp .ge 30) := by decide +kernel
theorem f_219_283 : zft 219 283 = some (1, .iload_n 2) := by decide +kernel
theorem f_219_284 : zft 219 284 = some (1, .aload_n 0) := by decide +kernel
theorem f_219_285 : zft 219 285 = some (1, .iload_n 3) := by decide +kernel
theorem f_219_286 : zft 219 286 = some (3, .invokevirtual 234) := by decide +kernel
theorem f_219_289 : zft 219 289 = some (1, .aload_n 0) := by decide +kernel
theorem f_219_290 : zft 219 290 = some (1, .iconst (-1)) := by decide +kernel
theorem f_219_291 : zft 219 291 = some (3, .invokevirtual 234) := by decide +kernel
theorem f_219_294 : zft 219 294 = some (3, .if_icmp .le 7) := by decide +kernel
theorem f_219_297 : zft 219 297 = some (1, .iconst 1) := by decide +kernel
theorem f_219_298 : zft 219 298 = some (3, .goto 4) := by decide +kernel
theorem f_219_301 : zft 219 301 = some (1, .iconst 0) := by decide +kernel
theorem f_219_302 : zft 219 302 = some (1, .iadd) := by decide +kernel
theorem f_219_303 : zft 219 303 = some (1, .istore_n 2) := by decide +kernel
theorem f_219_304 : zft 219 304 = some (3, .iinc 3 1) := by decide +kernel
theorem f_219_307 : zft 219 307 = some (3, .goto (-35)) := by decide +kernel
theorem f_219_310 : zft 219 310 = some (1, .iload_n 2) := by decide +kernel
theorem f_219_311 : zft 219 311 = some (1, .ireturn) := by decide +kernel
theorem f_219_312 : zft 219 312 = some (1, .aload_n 0) := by decide +kernel
theorem f_219_313 : zft 219 313 = some (3, .getfield 189) := by decide +kernel
theorem f_219_316 : zft 219 316 = some (1, .ireturn) := by decide +kernel
theorem f_219_317 : zft 219 317 = some (2, .bipush (-102)) := by decide +kernel
theorem f_219_319 : zft 219 319 = some (1, .ireturn) := by decide +kernel
theorem f_220_0 : zft 220 0 = some (1, .aload_n 0) := by decide +kernel
theorem f_220_1 : zft 220 1 = some (1, .iload_n 1) := by decide +kernel
theorem f_220_2 : zft 220 2 = some (3, .invokevirtual 88) := by decide +kernel
theorem f_220_5 : zft 220 5 = some (3, .ifCond .ne 6) := by decide +kernel
theorem f_220_8 : zft 220 8 = some (2, .bipush (-101)) := by decide +kernel
theorem f_220_10 : zft 220 10 = some (1, .ireturn) := by decide +kernel
theorem f_220_11 : zft 220 11 = some (1, .iload_n 2) := by decide +kernel
theorem f_220_12 : zft 220 12 = some (48, .tableswitch 83 0 7 #[48, 48, 48, 48, 55, 65, 71, 77]) := by decide +kernel
theorem f_220_60 : zft 220 60 = some (1, .aload_n 0) := by decide +kernel
theorem f_220_61 : zft 220 61 = some (1, .iload_n 1) := by decide +kernel
theorem f_220_62 : zft 220 62 = some (1, .iload_n 2) := by decide +kernel
theorem f_220_63 : zft 220 63 = some (3, .invokevirtual 62) := by decide +kernel
theorem f_220_66 : zft 220 66 = some (1, .ireturn) := by decide +kernel
theorem f_220_67 : zft 220 67 = some (1, .aload_n 0) := by decide +kernel
theorem f_220_68 : zft 220 68 = some (1, .iload_n 1) := by decide +kernel
theorem f_220_69 : zft 220 69 = some (1, .iconst 4) := by decide +kernel
theorem f_220_70 : zft 220 70 = some (3, .invokevirtual 62) := by decide +kernel
theorem f_220_73 : zft 220 73 = some (3, .invokestatic 98) := by decide +kernel
theorem f_220_76 : zft 220 76 = some (1, .ireturn) := by decide +kernel
theorem f_220_77 : zft 220 77 = some (1, .aload_n 0) := by decide +kernel
theorem f_220_78 : zft 220 78 = some (1, .iload_n 1) := by decide +kernel
theorem f_220_79 : zft 220 79 = some (3, .invokevirtual 161) := by decide +kernel
theorem f_220_82 : zft 220 82 = some (1, .ireturn) := by decide +kernel
theorem f_220_83 : zft 220 83 = some (1, .aload_n 0) := by decide +kernel
theorem f_220_84 : zft 220 84 = some (1, .iload_n 1) := by decide +kernel
theorem f_220_85 : zft 220 85 = some (3, .invokevirtual 66) := by decide +kernel
theorem f_220_88 : zft 220 88 = some (1, .ireturn) := by decide +kernel
theorem f_220_89 : zft 220 89 = some (1, .aload_n 0) := by decide +kernel
theorem f_220_90 : zft 220 90 = some (1, .iload_n 1) := by decide +kernel
theorem f_220_91 : zft 220 91 = some (3, .invokevirtual 73) := by decide +kernel
theorem f_220_94 : zft 220 94 = some (1, .ireturn) := by decide +kernel
theorem f_220_95 : zft 220 95 = some (2, .bipush (-102)) := by decide +kernel
theorem f_220_97 : zft 220 97 = some (1, .ireturn) := by decide +kernel
theorem f_221_0 : zft 221 0 = some (1, .aload_n 0) := by decide +kernel
theorem f_221_1 : zft 221 1 = some (1, .iload_n 1) := by decide +kernel
theorem f_221_2 : zft 221 2 = some (3, .invokevirtual 95) := by decide +kernel
theorem f_221_5 : zft 221 5 = some (3, .ifCond .ne 6) := by decide +kernel
theorem f_221_8 : zft 221 8 = some (2, .bipush (-101)) := by decide +kernel
theorem f_221_10 : zft 221 10 = some (1, .ireturn) := by decide +kernel
theorem f_221_11 : zft 221 11 = some (1, .iload_n 2) := by decide +kernel
theorem f_221_12 : zft 221 12 = some (32, .tableswitch 55 0 3 #[32, 32, 39, 49]) := by decide +kernel
theorem f_221_44 : zft 221 44 = some (1, .aload_n 0) := by decide +kernel
theorem f_221_45 : zft 221 45 = some (1, .iload_n 1) := by decide +kernel
theorem f_221_46 : zft 221 46 = some (1, .iload_n 2) := by decide +kernel
theorem f_221_47 : zft 221 47 = some (3, .invokevirtual 85) := by decide +kernel
theorem f_221_50 : zft 221 50 = some (1, .ireturn) := by decide +kernel
theorem f_221_51 : zft 221 51 = some (1, .aload_n 0) := by decide +kernel
theorem f_221_52 : zft 221 52 = some (1, .iload_n 1) := by decide +kernel
theorem f_221_53 : zft 221 53 = some (1, .iconst 2) := by decide +kernel
theorem f_221_54 : zft 221 54 = some (3, .invokevirtual 85) := by decide +kernel
theorem f_221_57 : zft 221 57 = some (3, .invokestatic 98) := by decide +kernel
theorem f_221_60 : zft 221 60 = some (1, .ireturn) := by decide +kernel
theorem f_221_61 : zft 221 61 = some (1, .aload_n 0) := by decide +kernel
theorem f_221_62 : zft 221 62 = some (1, .iload_n 1) := by decide +kernel
theorem f_221_63 : zft 221 63 = some (3, .invokevirtual 237) := by decide +kernel
theorem f_221_66 : zft 221 66 = some (1, .ireturn) := by decide +kernel
theorem f_221_67 : zft 221 67 = some (2, .bipush (-102)) := by decide +kernel
theorem f_221_69 : zft 221 69 = some (1, .ireturn) := by decide +kernel
theorem f_222_0 : zft 222 0 = some (1, .aload_n 0) := by decide +kernel
theorem f_222_1 : zft 222 1 = some (1, .iload_n 1) := by decide +kernel
theorem f_222_2 : zft 222 2 = some (3, .invokevirtual 88) := by decide +kernel
theorem f_222_5 : zft 222 5 = some (3, .ifCond .eq 23) := by decide +kernel
theorem f_222_8 : zft 222 8 = some (1, .aload_n 0) := by decide +kernel
theorem f_222_9 : zft 222 9 = some (1, .iload_n 2) := by decide +kernel
theorem f_222_10 : zft 222 10 = some (3, .invokevirtual 88) := by decide +kernel
theorem f_222_13 : zft 222 13 = some (3, .ifCond .eq 15) := by decide +kernel
theorem f_222_16 : zft 222 16 = some (1, .aload_n 0) := by decide +kernel
theorem f_222_17 : zft 222 17 = some (1, .iload_n 1) := by decide +kernel
theorem f_222_18 : zft 222 18 = some (1, .iload_n 2) := by decide +kernel
theorem f_222_19 : zft 222 19 = some (3, .invokevirtual 92) := by decide +kernel
theorem f_222_22 : zft 222 22 = some (3, .invokestatic 98) := by decide +kernel
theorem f_222_25 : zft 222 25 = some (3, .goto 5) := by decide +kernel
theorem f_222_28 : zft 222 28 = some (2, .bipush (-101)) := by decide +kernel
theorem f_222_30 : zft 222 30 = some (1, .ireturn) := by decide +kernel
theorem f_223_0 : zft 223 0 = some (1, .aload_n 0) := by decide +kernel
theorem f_223_1 : zft 223 1 = some (3, .getfield 7) := by decide +kernel
theorem f_223_4 : zft 223 4 = some (2, .bipush 120) := by decide +kernel
theorem f_223_6 : zft 223 6 = some (1, .iaload) := by decide +kernel
theorem f_223_7 : zft 223 7 = some (3, .ifCond .ne 8) := by decide +kernel
theorem f_223_10 : zft 223 10 = some (2, .bipush (-104)) := by decide +kernel
theorem f_223_12 : zft 223 12 = some (3, .goto 10) := by decide +kernel
theorem f_223_15 : zft 223 15 = some (1, .aload_n 0) := by decide +kernel
theorem f_223_16 : zft 223 16 = some (3, .getfield 7) := by decide +kernel
theorem f_223_19 : zft 223 19 = some (2, .bipush 122) := by decide +kernel
theorem f_223_21 : zft 223 21 = some (1, .iaload) := by decide +kernel
theorem f_223_22 : zft 223 22 = some (1, .ireturn) := by decide +kernel
theorem f_224_0 : zft 224 0 = some (1, .aload_n 0) := by decide +kernel
theorem f_224_1 : zft 224 1 = some (1, .iload_n 1) := by decide +kernel
theorem f_224_2 : zft 224 2 = some (3, .invokevirtual 88) := by decide +kernel
theorem f_224_5 : zft 224 5 = some (3, .ifCond .eq 11) := by decide +kernel
theorem f_224_8 : zft 224 8 = some (1, .aload_n 0) := by decide +kernel
theorem f_224_9 : zft 224 9 = some (1, .iload_n 1) := by decide +kernel
theorem f_224_10 : zft 224 10 = some (3, .invokevirtual 158) := by decide +kernel
theorem f_224_13 : zft 224 13 = some (3, .goto 5) := by decide +kernel
theorem f_224_16 : zft 224 16 = some (2, .bipush (-101)) := by decide +kernel
theorem f_224_18 : zft 224 18 = some (1, .ireturn) := by decide +kernel
theorem f_225_0 : zft 225 0 = some (1, .aload_n 0) := by decide +kernel
theorem f_225_1 : zft 225 1 = some (1, .iload_n 1) := by decide +kernel
theorem f_225_2 : zft 225 2 = some (3, .invokevirtual 88) := by decide +kernel
theorem f_225_5 : zft 225 5 = some (3, .ifCond .eq 11) := by decide +kernel
theorem f_225_8 : zft 225 8 = some (1, .aload_n 0) := by decide +kernel
theorem f_225_9 : zft 225 9 = some (1, .iload_n 1) := by decide +kernel
theorem f_225_10 : zft 225 10 = some (3, .invokevirtual 176) := by decide +kernel
theorem f_225_13 : zft 225 13 = some (3, .goto 5) := by decide +kernel
theorem f_225_16 : zft 225 16 = some (2, .bipush (-101)) := by decide +kernel
theorem f_225_18 : zft 225 18 = some (1, .ireturn) := by decide +kernel
theorem f_226_0 : zft 226 0 = some (1, .aload_n 0) := by decide +kernel
theorem f_226_1 : zft 226 1 = some (3, .invokevirtual 240) := by decide +kernel
theorem f_226_4 : zft 226 4 = some (1, .aload_n 0) := by decide +kernel
theorem f_226_5 : zft 226 5 = some (3, .getfield 167) := by decide +kernel
theorem f_226_8 : zft 226 8 = some (1, .ireturn) := by decide +kernel
theorem f_227_0 : zft 227 0 = some (1, .aload_n 0) := by decide +kernel
theorem f_227_1 : zft 227 1 = some (3, .invokevirtual 240) := by decide +kernel
theorem f_227_4 : zft 227 4 = some (1, .iload_n 1) := by decide +kernel
theorem f_227_5 : zft 227 5 = some (1, .iconst 0) := by decide +kernel
theorem f_227_6 : zft 227 6 = some (1, .aload_n 0) := by decide +kernel
theorem f_227_7 : zft 227 7 = some (3, .getfield 167) := by decide +kernel
theorem f_227_10 : zft 227 10 = some (1, .iconst 1) := by decide +kernel
theorem f_227_11 : zft 227 11 = some (1, .isub) := by decide +kernel
theorem f_227_12 : zft 227 12 = some (3, .invokestatic 58) := by decide +kernel
theorem f_227_15 : zft 227 15 = some (3, .ifCond .eq 12) := by decide +kernel
theorem f_227_18 : zft 227 18 = some (1, .aload_n 0) := by decide +kernel
theorem f_227_19 : zft 227 19 = some (3, .getfield 31) := by decide +kernel
theorem f_227_22 : zft 227 22 = some (1, .iload_n 1) := by decide +kernel
theorem f_227_23 : zft 227 23 = some (1, .iaload) := by decide +kernel
theorem f_227_24 : zft 227 24 = some (3, .goto 5) := by decide +kernel
theorem f_227_27 : zft 227 27 = some (2, .bipush (-101)) := by decide +kernel
theorem f_227_29 : zft 227 29 = some (1, .ireturn) := by decide +kernel
theorem f_228_0 : zft 228 0 = some (1, .aload_n 0) := by decide +kernel
theorem f_228_1 : zft 228 1 = some (1, .iload_n 1) := by decide +kernel
theorem f_228_2 : zft 228 2 = some (3, .invokevirtual 88) := by decide +kernel
theorem f_228_5 : zft 228 5 = some (3, .ifCond .ne 6) := by decide +kernel
theorem f_228_8 : zft 228 8 = some (2, .bipush (-101)) := by decide +kernel
theorem f_228_10 : zft 228 10 = some (1, .ireturn) := by decide +kernel
theorem f_228_11 : zft 228 11 = some (1, .aload_n 0) := by decide +kernel
theorem f_228_12 : zft 228 12 = some (3, .invokevirtual 240) := by decide +kernel
theorem f_228_15 : zft 228 15 = some (1, .iconst 0) := by decide +kernel
theorem f_228_16 : zft 228 16 = some (1, .istore_n 2) := by decide +kernel
theorem f_228_17 : zft 228 17 = some (1, .iload_n 2) := by decide +kernel
theorem f_228_18 : zft 228 18 = some (1, .aload_n 0) := by decide +kernel
theorem f_228_19 : zft 228 19 = some (3, .getfield 167) := by decide +kernel
theorem f_228_22 : zft 228 22 = some (3, .if_icmp .ge 21) := by decide +kernel
theorem f_228_25 : zft 228 25 = some (1, .aload_n 0) := by decide +kernel
theorem f_228_26 : zft 228 26 = some (3, .getfield 31) := by decide +kernel
theorem f_228_29 : zft 228 29 = some (1, .iload_n 2) := by decide +kernel
theorem f_228_30 : zft 228 30 = some (1, .iaload) := by decide +kernel
theorem f_228_31 : zft 228 31 = some (1, .iload_n 1) := by decide +kernel
theorem f_228_32 : zft 228 32 = some (3, .if_icmp .ne 5) := by decide +kernel
theorem f_228_35 : zft 228 35 = some (1, .iload_n 2) := by decide +kernel
theorem f_228_36 : zft 228 36 = some (1, .ireturn) := by decide +kernel
theorem f_228_37 : zft 228 37 = some (3, .iinc 2 1) := by decide +kernel
theorem f_228_40 : zft 228 40 = some (3, .goto (-23)) := by decide +kernel
theorem f_228_43 : zft 228 43 = some (2, .bipush (-104)) := by decide +kernel
theorem f_228_45 : zft 228 45 = some (1, .ireturn) := by decide +kernel
theorem f_229_0 : zft 229 0 = some (1, .aload_n 0) := by decide +kernel
theorem f_229_1 : zft 229 1 = some (3, .invokevirtual 240) := by decide +kernel
theorem f_229_4 : zft 229 4 = some (1, .aload_n 0) := by decide +kernel
theorem f_229_5 : zft 229 5 = some (3, .getfield 7) := by decide +kernel
theorem f_229_8 : zft 229 8 = some (2, .bipush 120) := by decide +kernel
theorem f_229_10 : zft 229 10 = some (1, .iaload) := by decide +kernel
theorem f_229_11 : zft 229 11 = some (3, .ifCond .ne 8) := by decide +kernel
theorem f_229_14 : zft 229 14 = some (2, .bipush (-104)) := by decide +kernel
theorem f_229_16 : zft 229 16 = some (3, .goto 22) := by decide +kernel
theorem f_229_19 : zft 229 19 = some (1, .aload_n 0) := by decide +kernel
theorem f_229_20 : zft 229 20 = some (3, .getfield 167) := by decide +kernel
theorem f_229_23 : zft 229 23 = some (1, .aload_n 0) := by decide +kernel
theorem f_229_24 : zft 229 24 = some (3, .getfield 7) := by decide +kernel
theorem f_229_27 : zft 229 27 = some (2, .bipush 120) := by decide +kernel
theorem f_229_29 : zft 229 29 = some (1, .iaload) := by decide +kernel
theorem f_229_30 : zft 229 30 = some (3, .if_icmp .ne 7) := by decide +kernel
theorem f_229_33 : zft 229 33 = some (1, .iconst 1) := by decide +kernel
theorem f_229_34 : zft 229 34 = some (3, .goto 4) := by decide +kernel
theorem f_229_37 : zft 229 37 = some (1, .iconst 0) := by decide +kernel
theorem f_229_38 : zft 229 38 = some (1, .ireturn) := by decide +kernel
theorem f_230_0 : zft 230 0 = some (1, .aload_n 0) := by decide +kernel
theorem f_230_1 : zft 230 1 = some (3, .invokevirtual 240) := by decide +kernel
theorem f_230_4 : zft 230 4 = some (1, .aload_n 0) := by decide +kernel
theorem f_230_5 : zft 230 5 = some (3, .getfield 164) := by decide +kernel
theorem f_230_8 : zft 230 8 = some (1, .ireturn) := by decide +kernel
theorem f_231_0 : zft 231 0 = some (1, .aload_n 0) := by decide +kernel
theorem f_231_1 : zft 231 1 = some (1, .iload_n 1) := by decide +kernel
theorem f_231_2 : zft 231 2 = some (3, .invokevirtual 88) := by decide +kernel
theorem f_231_5 : zft 231 5 = some (3, .ifCond .ne 6) := by decide +kernel
theorem f_231_8 : zft 231 8 = some (2, .bipush (-101)) := by decide +kernel
theorem f_231_10 : zft 231 10 = some (1, .ireturn) := by decide +kernel
theorem f_231_11 : zft 231 11 = some (1, .aload_n 0) := by decide +kernel
theorem f_231_12 : zft 231 12 = some (3, .invokevirtual 240) := by decide +kernel
theorem f_231_15 : zft 231 15 = some (1, .aload_n 0) := by decide +kernel
theorem f_231_16 : zft 231 16 = some (3, .getfield 34) := by decide +kernel
theorem f_231_19 : zft 231 19 = some (1, .iload_n 1) := by decide +kernel
theorem f_231_20 : zft 231 20 = some (1, .baload) := by decide +kernel
theorem f_231_21 : zft 231 21 = some (3, .ifCond .ne 6) := by decide +kernel
theorem f_231_24 : zft 231 24 = some (2, .bipush (-104)) := by decide +kernel
theorem f_231_26 : zft 231 26 = some (1, .ireturn) := by decide +kernel
theorem f_231_27 : zft 231 27 = some (1, .iconst 0) := by decide +kernel
theorem f_231_28 : zft 231 28 = some (1, .istore_n 2) := by decide +kernel
theorem f_231_29 : zft 231 29 = some (1, .iconst 0) := by decide +kernel
theorem f_231_30 : zft 231 30 = some (1, .istore_n 3) := by decide +kernel
theorem f_231_31 : zft 231 31 = some (1, .iload_n 3) := by decide +kernel
theorem f_231_32 : zft 231 32 = some (2, .bipush 6) := by decide +kernel
theorem f_231_34 : zft 231 34 = some (3, .if_icmp .ge 35) := by decide +kernel
theorem f_231_37 : zft 231 37 = some (1, .aload_n 0) := by decide +kernel
theorem f_231_38 : zft 231 38 = some (1, .iconst (-1)) := by decide +kernel
theorem f_231_39 : zft 231 39 = some (1, .iload_n 3) := by decide +kernel
theorem f_231_40 : zft 231 40 = some (1, .iconst (-1)) := by decide +kernel
theorem f_231_41 : zft 231 41 = some (3, .invokevirtual 179) := by decide +kernel
theorem f_231_44 : zft 231 44 = some (1, .iload_n 2) := by decide +kernel
theorem f_231_45 : zft 231 45 = some (1, .aload_n 0) := by decide +kernel
theorem f_231_46 : zft 231 46 = some (3, .getfield 34) := by decide +kernel
theorem f_231_49 : zft 231 49 = some (1, .iload_n 1) := by decide +kernel
theorem f_231_50 : zft 231 50 = some (1, .baload) := by decide +kernel
theorem f_231_51 : zft 231 51 = some (3, .ifCond .eq 7) := by decide +kernel
theorem f_231_54 : zft 231 54 = some (1, .iconst 0) := by decide +kernel
theorem f_231_55 : zft 231 55 = some (3, .goto 6) := by decide +kernel
theorem f_231_58 : zft 231 58 = some (1, .iconst 1) := by decide +kernel
theorem f_231_59 : zft 231 59 = some (1, .iload_n 3) := by decide +kernel
theorem f_231_60 : zft 231 60 = some (1, .ishl) := by decide +kernel
theorem f_231_61 : zft 231 61 = some (1, .ior) := by decide +kernel
theorem f_231_62 : zft 231 62 = some (1, .istore_n 2) := by decide +kernel
theorem f_231_63 : zft 231 63 = some (3, .iinc 3 1) := by decide +kernel
theorem f_231_66 : zft 231 66 = some (3, .goto (-35)) := by decide +kernel
theorem f_231_69 : zft 231 69 = some (1, .iload_n 2) := by decide +kernel
theorem f_231_70 : zft 231 70 = some (1, .ireturn) := by decide +kernel
theorem f_232_0 : zft 232 0 = some (1, .aload_n 0) := by decide +kernel
theorem f_232_1 : zft 232 1 = some (1, .iload_n 1) := by decide +kernel
theorem f_232_2 : zft 232 2 = some (3, .invokevirtual 88) := by decide +kernel
theorem f_232_5 : zft 232 5 = some (3, .ifCond .ne 6) := by decide +kernel
theorem f_232_8 : zft 232 8 = some (2, .bipush (-101)) := by decide +kernel
theorem f_232_10 : zft 232 10 = some (1, .ireturn) := by decide +kernel
theorem f_232_11 : zft 232 11 = some (1, .aload_n 0) := by decide +kernel
theorem f_232_12 : zft 232 12 = some (3, .invokevirtual 240) := by decide +kernel
theorem f_232_15 : zft 232 15 = some (1, .aload_n 0) := by decide +kernel
theorem f_232_16 : zft 232 16 = some (3, .getfield 34) := by decide +kernel
theorem f_232_19 : zft 232 19 = some (1, .iload_n 1) := by decide +kernel
theorem f_232_20 : zft 232 20 = some (1, .baload) := by decide +kernel
theorem f_232_21 : zft 232 21 = some (3, .ifCond .eq 6) := by decide +kernel
theorem f_232_24 : zft 232 24 = some (2, .bipush (-104)) := by decide +kernel
theorem f_232_26 : zft 232 26 = some (1, .ireturn) := by decide +kernel
theorem f_232_27 : zft 232 27 = some (1, .iconst 0) := by decide +kernel
theorem f_232_28 : zft 232 28 = some (1, .istore_n 2) := by decide +kernel
theorem f_232_29 : zft 232 29 = some (1, .iconst 0) := by decide +kernel
theorem f_232_30 : zft 232 30 = some (1, .istore_n 3) := by decide +kernel
theorem f_232_31 : zft 232 31 = some (1, .iload_n 3) := by decide +kernel
theorem f_232_32 : zft 232 32 = some (2, .bipush 6) := by decide +kernel
theorem f_232_34 : zft 232 34 = some (3, .if_icmp .ge 35) := by decide +kernel
theorem f_232_37 : zft 232 37 = some (1, .aload_n 0) := by decide +kernel
theorem f_232_38 : zft 232 38 = some (1, .iconst (-1)) := by decide +kernel
theorem f_232_39 : zft 232 39 = some (1, .iconst (-1)) := by decide +kernel
theorem f_232_40 : zft 232 40 = some (1, .iload_n 3) := by decide +kernel
theorem f_232_41 : zft 232 41 = some (3, .invokevirtual 179) := by decide +kernel
theorem f_232_44 : zft 232 44 = some (1, .iload_n 2) := by decide +kernel
theorem f_232_45 : zft 232 45 = some (1, .aload_n 0) := by decide +kernel
theorem f_232_46 : zft 232 46 = some (3, .getfield 34) := by decide +kernel
theorem f_232_49 : zft 232 49 = some (1, .iload_n 1) := by decide +kernel
theorem f_232_50 : zft 232 50 = some (1, .baload) := by decide +kernel
theorem f_232_51 : zft 232 51 = some (3, .ifCond .eq 9) := by decide +kernel
theorem f_232_54 : zft 232 54 = some (1, .iconst 1) := by decide +kernel
theorem f_232_55 : zft 232 55 = some (1, .iload_n 3) := by decide +kernel
theorem f_232_56 : zft 232 56 = some (1, .ishl) := by decide +kernel
theorem f_232_57 : zft 232 57 = some (3, .goto 4) := by decide +kernel
theorem f_232_60 : zft 232 60 = some (1, .iconst 0) := by decide +kernel
theorem f_232_61 : zft 232 61 = some (1, .ior) := by decide +kernel
theorem f_232_62 : zft 232 62 = some (1, .istore_n 2) := by decide +kernel
theorem f_232_63 : zft 232 63 = some (3, .iinc 3 1) := by decide +kernel
theorem f_232_66 : zft 232 66 = some (3, .goto (-35)) := by decide +kernel
theorem f_232_69 : zft 232 69 = some (1, .iload_n 2) := by decide +kernel
theorem f_232_70 : zft 232 70 = some (1, .ireturn) := by decide +kernel
theorem f_233_0 : zft 233 0 = some (1, .aload_n 0) := by decide +kernel
theorem f_233_1 : zft 233 1 = some (1, .iload_n 1) := by decide +kernel
theorem f_233_2 : zft 233 2 = some (1, .iconst 4) := by decide +kernel
theorem f_233_3 : zft 233 3 = some (3, .invokevirtual 62) := by decide +kernel
theorem f_233_6 : zft 233 6 = some (3, .ifCond .lt 14) := by decide +kernel
theorem f_233_9 : zft 233 9 = some (1, .iconst 1) := by decide +kernel
theorem f_233_10 : zft 233 10 = some (1, .aload_n 0) := by decide +kernel
theorem f_233_11 : zft 233 11 = some (1, .iload_n 1) := by decide +kernel
theorem f_233_12 : zft 233 12 = some (1, .iconst 4) := by decide +kernel
theorem f_233_13 : zft 233 13 = some (3, .invokevirtual 62) := by decide +kernel
theorem f_233_16 : zft 233 16 = some (1, .ishl) := by decide +kernel
theorem f_233_17 : zft 233 17 = some (3, .goto 4) := by decide +kernel
theorem f_233_20 : zft 233 20 = some (1, .iconst 0) := by decide +kernel
theorem f_233_21 : zft 233 21 = some (1, .ireturn) := by decide +kernel
theorem f_234_0 : zft 234 0 = some (1, .iload_n 1) := by decide +kernel
theorem f_234_1 : zft 234 1 = some (2, .bipush 64) := by decide +kernel
theorem f_234_3 : zft 234 3 = some (1, .irem) := by decide +kernel
theorem f_234_4 : zft 234 4 = some (1, .istore_n 3) := by decide +kernel
theorem f_234_5 : zft 234 5 = some (1, .iload_n 1) := by decide +kernel
theorem f_234_6 : zft 234 6 = some (2, .bipush 64) := by decide +kernel
theorem f_234_8 : zft 234 8 = some (1, .idiv) := by decide +kernel
theorem f_234_9 : zft 234 9 = some (2, .istore 4) := by decide +kernel
theorem f_234_11 : zft 234 11 = some (1, .aload_n 0) := by decide +kernel
theorem f_234_12 : zft 234 12 = some (1, .iload_n 2) := by decide +kernel
theorem f_234_13 : zft 234 13 = some (1, .iconst 0) := by decide +kernel
theorem f_234_14 : zft 234 14 = some (3, .invokevirtual 85) := by decide +kernel
theorem f_234_17 : zft 234 17 = some (2, .iload 4) := by decide +kernel
theorem f_234_19 : zft 234 19 = some (3, .if_icmp .eq 14) := by decide +kernel
theorem f_234_22 : zft 234 22 = some (1, .aload_n 0) := by decide +kernel
theorem f_234_23 : zft 234 23 = some (1, .iload_n 2) := by decide +kernel
theorem f_234_24 : zft 234 24 = some (1, .iconst 1) := by decide +kernel
theorem f_234_25 : zft 234 25 = some (3, .invokevirtual 85) := by decide +kernel
theorem f_234_28 : zft 234 28 = some (2, .iload 4) := by decide +kernel
theorem f_234_30 : zft 234 30 = some (3, .if_icmp .ne 25) := by decide +kernel
theorem f_234_33 : zft 234 33 = some (1, .aload_n 0) := by decide +kernel
theorem f_234_34 : zft 234 34 = some (1, .iload_n 2) := by decide +kernel
theorem f_234_35 : zft 234 35 = some (1, .iconst 2) := by decide +kernel
theorem f_234_36 : zft 234 36 = some (3, .invokevirtual 85) := by decide +kernel
theorem f_234_39 : zft 234 39 = some (3, .ifCond .lt 18) := by decide +kernel
theorem f_234_42 : zft 234 42 = some (1, .iload_n 3) := by decide +kernel
theorem f_234_43 : zft 234 43 = some (1, .aload_n 0) := by decide +kernel
theorem f_234_44 : zft 234 44 = some (1, .iload_n 2) := by decide +kernel
theorem f_234_45 : zft 234 45 = some (1, .iconst 2) := by decide +kernel
theorem f_234_46 : zft 234 46 = some (3, .invokevirtual 85) := by decide +kernel
theorem f_234_49 : zft 234 49 = some (1, .ishr) := by decide +kernel
theorem f_234_50 : zft 234 50 = some (1, .iconst 1) := by decide +kernel
theorem f_234_51 : zft 234 51 = some (1, .iand) := by decide +kernel
theorem f_234_52 : zft 234 52 = some (3, .ifCond .ne 5) := by decide +kernel
theorem f_234_55 : zft 234 55 = some (1, .iconst (-1)) := by decide +kernel
theorem f_234_56 : zft 234 56 = some (1, .ireturn) := by decide +kernel
theorem f_234_57 : zft 234 57 = some (1, .aload_n 0) := by decide +kernel
theorem f_234_58 : zft 234 58 = some (1, .iload_n 2) := by decide +kernel
theorem f_234_59 : zft 234 59 = some (1, .iconst 0) := by decide +kernel
theorem f_234_60 : zft 234 60 = some (3, .invokevirtual 85) := by decide +kernel
theorem f_234_63 : zft 234 63 = some (2, .iload 4) := by decide +kernel
theorem f_234_65 : zft 234 65 = some (3, .if_icmp .ne 12) := by decide +kernel
theorem f_234_68 : zft 234 68 = some (1, .aload_n 0) := by decide +kernel
theorem f_234_69 : zft 234 69 = some (1, .iload_n 2) := by decide +kernel
theorem f_234_70 : zft 234 70 = some (1, .iconst 1) := by decide +kernel
theorem f_234_71 : zft 234 71 = some (3, .invokevirtual 85) := by decide +kernel
theorem f_234_74 : zft 234 74 = some (3, .goto 9) := by decide +kernel
theorem f_234_77 : zft 234 77 = some (1, .aload_n 0) := by decide +kernel
theorem f_234_78 : zft 234 78 = some (1, .iload_n 2) := by decide +kernel
theorem f_234_79 : zft 234 79 = some (1, .iconst 0) := by decide +kernel
theorem f_234_80 : zft 234 80 = some (3, .invokevirtual 85) := by decide +kernel
theorem f_234_83 : zft 234 83 = some (2, .istore 5) := by decide +kernel
theorem f_234_85 : zft 234 85 = some (2, .bipush 64) := by decide +kernel
theorem f_234_87 : zft 234 87 = some (2, .iload 5) := by decide +kernel
theorem f_234_89 : zft 234 89 = some (1, .imul) := by decide +kernel
theorem f_234_90 : zft 234 90 = some (1, .iload_n 3) := by decide +kernel
theorem f_234_91 : zft 234 91 = some (1, .aload_n 0) := by decide +kernel
theorem f_234_92 : zft 234 92 = some (2, .iload 5) := by decide +kernel
theorem f_234_94 : zft 234 94 = some (3, .invokevirtual 243) := by decide +kernel
theorem f_234_97 : zft 234 97 = some (1, .ior) := by decide +kernel
theorem f_234_98 : zft 234 98 = some (1, .iadd) := by decide +kernel
theorem f_234_99 : zft 234 99 = some (1, .ireturn) := by decide +kernel
theorem f_235_0 : zft 235 0 = some (1, .aload_n 0) := by decide +kernel
theorem f_235_1 : zft 235 1 = some (1, .iload_n 1) := by decide +kernel
theorem f_235_2 : zft 235 2 = some (2, .bipush 64) := by decide +kernel
theorem f_235_4 : zft 235 4 = some (1, .idiv) := by decide +kernel
theorem f_235_5 : zft 235 5 = some (1, .iload_n 2) := by decide +kernel
theorem f_235_6 : zft 235 6 = some (3, .invokevirtual 92) := by decide +kernel
theorem f_235_9 : zft 235 9 = some (1, .istore_n 3) := by decide +kernel
theorem f_235_10 : zft 235 10 = some (1, .iload_n 3) := by decide +kernel
theorem f_235_11 : zft 235 11 = some (1, .iconst (-1)) := by decide +kernel
theorem f_235_12 : zft 235 12 = some (3, .if_icmp .ne 7) := by decide +kernel
theorem f_235_15 : zft 235 15 = some (1, .iconst (-1)) := by decide +kernel
theorem f_235_16 : zft 235 16 = some (3, .goto 9) := by decide +kernel
theorem f_235_19 : zft 235 19 = some (1, .aload_n 0) := by decide +kernel
theorem f_235_20 : zft 235 20 = some (1, .iload_n 1) := by decide +kernel
theorem f_235_21 : zft 235 21 = some (1, .iload_n 3) := by decide +kernel
theorem f_235_22 : zft 235 22 = some (3, .invokevirtual 246) := by decide +kernel
theorem f_235_25 : zft 235 25 = some (1, .ireturn) := by decide +kernel
theorem f_236_0 : zft 236 0 = some (2, .bipush 64) := by decide +kernel
theorem f_236_2 : zft 236 2 = some (1, .aload_n 0) := by decide +kernel
theorem f_236_3 : zft 236 3 = some (3, .getfield 7) := by decide +kernel
theorem f_236_6 : zft 236 6 = some (2, .bipush 122) := by decide +kernel
theorem f_236_8 : zft 236 8 = some (1, .iaload) := by decide +kernel
theorem f_236_9 : zft 236 9 = some (1, .imul) := by decide +kernel
theorem f_236_10 : zft 236 10 = some (1, .aload_n 0) := by decide +kernel
theorem f_236_11 : zft 236 11 = some (1, .aload_n 0) := by decide +kernel
theorem f_236_12 : zft 236 12 = some (3, .getfield 7) := by decide +kernel
theorem f_236_15 : zft 236 15 = some (2, .bipush 122) := by decide +kernel
theorem f_236_17 : zft 236 17 = some (1, .iaload) := by decide +kernel
theorem f_236_18 : zft 236 18 = some (3, .invokevirtual 243) := by decide +kernel
theorem f_236_21 : zft 236 21 = some (1, .iadd) := by decide +kernel
theorem f_236_22 : zft 236 22 = some (1, .ireturn) := by decide +kernel
theorem f_237_0 : zft 237 0 = some (1, .iconst 0) := by decide +kernel
theorem f_237_1 : zft 237 1 = some (1, .istore_n 2) := by decide +kernel
theorem f_237_2 : zft 237 2 = some (1, .iload_n 2) := by decide +kernel
theorem f_237_3 : zft 237 3 = some (3, .sipush 768) := by decide +kernel
theorem f_237_6 : zft 237 6 = some (3, .if_icmp .ge 28) := by decide +kernel
theorem f_237_9 : zft 237 9 = some (1, .aload_n 0) := by decide +kernel
theorem f_237_10 : zft 237 10 = some (3, .getfield 55) := by decide +kernel
theorem f_237_13 : zft 237 13 = some (1, .iload_n 2) := by decide +kernel
theorem f_237_14 : zft 237 14 = some (1, .iload_n 2) := by decide +kernel
theorem f_237_15 : zft 237 15 = some (2, .bipush 64) := by decide +kernel
theorem f_237_17 : zft 237 17 = some (1, .idiv) := by decide +kernel
theorem f_237_18 : zft 237 18 = some (1, .iload_n 1) := by decide +kernel
theorem f_237_19 : zft 237 19 = some (3, .if_icmp .ne 7) := by decide +kernel
theorem f_237_22 : zft 237 22 = some (1, .iconst 0) := by decide +kernel
theorem f_237_23 : zft 237 23 = some (3, .goto 4) := by decide +kernel
theorem f_237_26 : zft 237 26 = some (1, .iconst (-1)) := by decide +kernel
theorem f_237_27 : zft 237 27 = some (1, .iastore) := by decide +kernel
theorem f_237_28 : zft 237 28 = some (3, .iinc 2 1) := by decide +kernel
theorem f_237_31 : zft 237 31 = some (3, .goto (-29)) := by decide +kernel
theorem f_237_34 : zft 237 34 = some (1, .iconst 1) := by decide +kernel
theorem f_237_35 : zft 237 35 = some (1, .istore_n 2) := by decide +kernel
theorem f_237_36 : zft 237 36 = some (1, .iconst 1) := by decide +kernel
theorem f_237_37 : zft 237 37 = some (1, .istore_n 3) := by decide +kernel
theorem f_237_38 : zft 237 38 = some (1, .iload_n 2) := by decide +kernel
theorem f_237_39 : zft 237 39 = some (3, .ifCond .eq 105) := by decide +kernel
theorem f_237_42 : zft 237 42 = some (1, .iconst 0) := by decide +kernel
theorem f_237_43 : zft 237 43 = some (1, .istore_n 2) := by decide +kernel
theorem f_237_44 : zft 237 44 = some (1, .iconst 0) := by decide +kernel
theorem f_237_45 : zft 237 45 = some (2, .istore 4) := by decide +kernel
theorem f_237_47 : zft 237 47 = some (2, .iload 4) := by decide +kernel
theorem f_237_49 : zft 237 49 = some (2, .bipush 64) := by decide +kernel
theorem f_237_51 : zft 237 51 = some (1, .aload_n 0) := by decide +kernel
theorem f_237_52 : zft 237 52 = some (3, .getfield 7) := by decide +kernel
theorem f_237_55 : zft 237 55 = some (2, .bipush 120) := by decide +kernel
theorem f_237_57 : zft 237 57 = some (1, .iaload) := by decide +kernel
theorem f_237_58 : zft 237 58 = some (1, .imul) := by decide +kernel
theorem f_237_59 : zft 237 59 = some (3, .if_icmp .ge 79) := by decide +kernel
theorem f_237_62 : zft 237 62 = some (1, .iconst 0) := by decide +kernel
theorem f_237_63 : zft 237 63 = some (2, .istore 5) := by decide +kernel
theorem f_237_65 : zft 237 65 = some (2, .iload 5) := by decide +kernel
theorem f_237_67 : zft 237 67 = some (1, .aload_n 0) := by decide +kernel
theorem f_237_68 : zft 237 68 = some (3, .getfield 7) := by decide +kernel
theorem f_237_71 : zft 237 71 = some (2, .bipush 121) := by decide +kernel
theorem f_237_73 : zft 237 73 = some (1, .iaload) := by decide +kernel
theorem f_237_74 : zft 237 74 = some (3, .if_icmp .ge 58) := by decide +kernel
theorem f_237_77 : zft 237 77 = some (1, .aload_n 0) := by decide +kernel
theorem f_237_78 : zft 237 78 = some (3, .getfield 55) := by decide +kernel
theorem f_237_81 : zft 237 81 = some (2, .iload 4) := by decide +kernel
theorem f_237_83 : zft 237 83 = some (1, .iaload) := by decide +kernel
theorem f_237_84 : zft 237 84 = some (1, .iconst (-1)) := by decide +kernel
theorem f_237_85 : zft 237 85 = some (3, .if_icmp .ne 47) := by decide +kernel
theorem f_237_88 : zft 237 88 = some (1, .aload_n 0) := by decide +kernel
theorem f_237_89 : zft 237 89 = some (2, .iload 4) := by decide +kernel
theorem f_237_91 : zft 237 91 = some (2, .iload 5) := by decide +kernel
theorem f_237_93 : zft 237 93 = some (3, .invokevirtual 246) := by decide +kernel
theorem f_237_96 : zft 237 96 = some (2, .istore 6) := by decide +kernel
theorem f_237_98 : zft 237 98 = some (2, .iload 6) := by decide +kernel
theorem f_237_100 : zft 237 100 = some (3, .ifCond .lt 26) := by decide +kernel
theorem f_237_103 : zft 237 103 = some (1, .aload_n 0) := by decide +kernel
theorem f_237_104 : zft 237 104 = some (3, .getfield 55) := by decide +kernel
theorem f_237_107 : zft 237 107 = some (2, .iload 6) := by decide +kernel
theorem f_237_109 : zft 237 109 = some (1, .iaload) := by decide +kernel
theorem f_237_110 : zft 237 110 = some (1, .iload_n 3) := by decide +kernel
theorem f_237_111 : zft 237 111 = some (1, .iconst 1) := by decide +kernel
theorem f_237_112 : zft 237 112 = some (1, .isub) := by decide +kernel
theorem f_237_113 : zft 237 113 = some (3, .if_icmp .ne 13) := by decide +kernel
theorem f_237_116 : zft 237 116 = some (1, .aload_n 0) := by decide +kernel
theorem f_237_117 : zft 237 117 = some (3, .getfield 55) := by decide +kernel
theorem f_237_120 : zft 237 120 = some (2, .iload 4) := by decide +kernel
theorem f_237_122 : zft 237 122 = some (1, .iload_n 3) := by decide +kernel
theorem f_237_123 : zft 237 123 = some (1, .iastore) := by decide +kernel
theorem f_237_124 : zft 237 124 = some (1, .iconst 1) := by decide +kernel
theorem f_237_125 : zft 237 125 = some (1, .istore_n 2) := by decide +kernel
theorem f_237_126 : zft 237 126 = some (3, .iinc 5 1) := by decide +kernel
theorem f_237_129 : zft 237 129 = some (3, .goto (-64)) := by decide +kernel
theorem f_237_132 : zft 237 132 = some (3, .iinc 4 1) := by decide +kernel
theorem f_237_135 : zft 237 135 = some (3, .goto (-88)) := by decide +kernel
theorem f_237_138 : zft 237 138 = some (3, .iinc 3 1) := by decide +kernel
theorem f_237_141 : zft 237 141 = some (3, .goto (-103)) := by decide +kernel
theorem f_237_144 : zft 237 144 = some (1, .return_) := by decide +kernel
theorem f_238_0 : zft 238 0 = some (1, .aload_n 0) := by decide +kernel
theorem f_238_1 : zft 238 1 = some (1, .iload_n 1) := by decide +kernel
theorem f_238_2 : zft 238 2 = some (3, .invokevirtual 88) := by decide +kernel
theorem f_238_5 : zft 238 5 = some (3, .ifCond .ne 6) := by decide +kernel
theorem f_238_8 : zft 238 8 = some (2, .bipush (-101)) := by decide +kernel
theorem f_238_10 : zft 238 10 = some (1, .ireturn) := by decide +kernel
theorem f_238_11 : zft 238 11 = some (1, .aload_n 0) := by decide +kernel
theorem f_238_12 : zft 238 12 = some (1, .iload_n 1) := by decide +kernel
theorem f_238_13 : zft 238 13 = some (3, .invokevirtual 249) := by decide +kernel
theorem f_238_16 : zft 238 16 = some (1, .aload_n 0) := by decide +kernel
theorem f_238_17 : zft 238 17 = some (3, .getfield 55) := by decide +kernel
theorem f_238_20 : zft 238 20 = some (1, .aload_n 0) := by decide +kernel
theorem f_238_21 : zft 238 21 = some (3, .invokevirtual 252) := by decide +kernel
theorem f_238_24 : zft 238 24 = some (1, .iaload) := by decide +kernel
theorem f_238_25 : zft 238 25 = some (3, .invokestatic 98) := by decide +kernel
theorem f_238_28 : zft 238 28 = some (1, .ireturn) := by decide +kernel
theorem f_239_0 : zft 239 0 = some (1, .aload_n 0) := by decide +kernel
theorem f_239_1 : zft 239 1 = some (1, .iload_n 1) := by decide +kernel
theorem f_239_2 : zft 239 2 = some (3, .invokevirtual 88) := by decide +kernel
theorem f_239_5 : zft 239 5 = some (3, .ifCond .ne 6) := by decide +kernel
theorem f_239_8 : zft 239 8 = some (2, .bipush (-101)) := by decide +kernel
theorem f_239_10 : zft 239 10 = some (1, .ireturn) := by decide +kernel
theorem f_239_11 : zft 239 11 = some (1, .aload_n 0) := by decide +kernel
theorem f_239_12 : zft 239 12 = some (1, .iload_n 1) := by decide +kernel
theorem f_239_13 : zft 239 13 = some (3, .invokevirtual 249) := by decide +kernel
theorem f_239_16 : zft 239 16 = some (1, .aload_n 0) := by decide +kernel
theorem f_239_17 : zft 239 17 = some (3, .getfield 55) := by decide +kernel
theorem f_239_20 : zft 239 20 = some (1, .aload_n 0) := by decide +kernel
theorem f_239_21 : zft 239 21 = some (3, .invokevirtual 252) := by decide +kernel
theorem f_239_24 : zft 239 24 = some (1, .iaload) := by decide +kernel
theorem f_239_25 : zft 239 25 = some (1, .istore_n 3) := by decide +kernel
theorem f_239_26 : zft 239 26 = some (1, .iload_n 3) := by decide +kernel
theorem f_239_27 : zft 239 27 = some (1, .iconst (-1)) := by decide +kernel
theorem f_239_28 : zft 239 28 = some (3, .if_icmp .ne 6) := by decide +kernel
theorem f_239_31 : zft 239 31 = some (2, .bipush (-104)) := by decide +kernel
theorem f_239_33 : zft 239 33 = some (1, .ireturn) := by decide +kernel
theorem f_239_34 : zft 239 34 = some (1, .iload_n 2) := by decide +kernel
theorem f_239_35 : zft 239 35 = some (1, .iconst 0) := by decide +kernel
theorem f_239_36 : zft 239 36 = some (1, .iload_n 3) := by decide +kernel
theorem f_239_37 : zft 239 37 = some (3, .invokestatic 58) := by decide +kernel
theorem f_239_40 : zft 239 40 = some (3, .ifCond .ne 6) := by decide +kernel
theorem f_239_43 : zft 239 43 = some (2, .bipush (-102)) := by decide +kernel
theorem f_239_45 : zft 239 45 = some (1, .ireturn) := by decide +kernel
theorem f_239_46 : zft 239 46 = some (1, .aload_n 0) := by decide +kernel
theorem f_239_47 : zft 239 47 = some (3, .invokevirtual 252) := by decide +kernel
theorem f_239_50 : zft 239 50 = some (2, .istore 4) := by decide +kernel
theorem f_239_52 : zft 239 52 = some (1, .iconst 0) := by decide +kernel
theorem f_239_53 : zft 239 53 = some (2, .istore 5) := by decide +kernel
theorem f_239_55 : zft 239 55 = some (2, .iload 5) := by decide +kernel
theorem f_239_57 : zft 239 57 = some (1, .iload_n 2) := by decide +kernel
theorem f_239_58 : zft 239 58 = some (3, .if_icmp .ge 65) := by decide +kernel
theorem f_239_61 : zft 239 61 = some (1, .iconst 0) := by decide +kernel
theorem f_239_62 : zft 239 62 = some (2, .istore 6) := by decide +kernel
theorem f_239_64 : zft 239 64 = some (1, .aload_n 0) := by decide +kernel
theorem f_239_65 : zft 239 65 = some (2, .iload 4) := by decide +kernel
theorem f_239_67 : zft 239 67 = some (2, .iload 6) := by decide +kernel
theorem f_239_69 : zft 239 69 = some (3, .invokevirtual 255) := by decide +kernel
theorem f_239_72 : zft 239 72 = some (1, .iconst (-1)) := by decide +kernel
theorem f_239_73 : zft 239 73 = some (3, .if_icmp .eq 28) := by decide +kernel
theorem f_239_76 : zft 239 76 = some (1, .aload_n 0) := by decide +kernel
theorem f_239_77 : zft 239 77 = some (3, .getfield 55) := by decide +kernel
theorem f_239_80 : zft 239 80 = some (1, .aload_n 0) := by decide +kernel
theorem f_239_81 : zft 239 81 = some (2, .iload 4) := by decide +kernel
theorem f_239_83 : zft 239 83 = some (2, .iload 6) := by decide +kernel
theorem f_239_85 : zft 239 85 = some (3, .invokevirtual 255) := by decide +kernel
theorem f_239_88 : zft 239 88 = some (1, .iaload) := by decide +kernel
theorem f_239_89 : zft 239 89 = some (1, .aload_n 0) := by decide +kernel
theorem f_239_90 : zft 239 90 = some (3, .getfield 55) := by decide +kernel
theorem f_239_93 : zft 239 93 = some (2, .iload 4) := by decide +kernel
theorem f_239_95 : zft 239 95 = some (1, .iaload) := by decide +kernel
theorem f_239_96 : zft 239 96 = some (1, .iconst 1) := by decide +kernel
theorem f_239_97 : zft 239 97 = some (1, .isub) := by decide +kernel
theorem f_239_98 : zft 239 98 = some (3, .if_icmp .eq 9) := by decide +kernel
theorem f_239_101 : zft 239 101 = some (3, .iinc 6 1) := by decide +kernel
theorem f_239_104 : zft 239 104 = some (3, .goto (-40)) := by decide +kernel
theorem f_239_107 : zft 239 107 = some (1, .aload_n 0) := by decide +kernel
theorem f_239_108 : zft 239 108 = some (2, .iload 4) := by decide +kernel
theorem f_239_110 : zft 239 110 = some (2, .iload 6) := by decide +kernel
theorem f_239_112 : zft 239 112 = some (3, .invokevirtual 255) := by decide +kernel
theorem f_239_115 : zft 239 115 = some (2, .istore 4) := by decide +kernel
theorem f_239_117 : zft 239 117 = some (3, .iinc 5 1) := by decide +kernel
theorem f_239_120 : zft 239 120 = some (3, .goto (-65)) := by decide +kernel
theorem f_239_123 : zft 239 123 = some (2, .iload 4) := by decide +kernel
theorem f_239_125 : zft 239 125 = some (2, .bipush 64) := by decide +kernel
theorem f_239_127 : zft 239 127 = some (1, .idiv) := by decide +kernel
theorem f_239_128 : zft 239 128 = some (1, .ireturn) := by decide +kernel
theorem f_240_0 : zft 240 0 = some (1, .aload_n 0) := by decide +kernel
theorem f_240_1 : zft 240 1 = some (3, .getfield 7) := by decide +kernel
theorem f_240_4 : zft 240 4 = some (2, .bipush 120) := by decide +kernel
theorem f_240_6 : zft 240 6 = some (1, .iaload) := by decide +kernel
theorem f_240_7 : zft 240 7 = some (3, .ifCond .ne 6) := by decide +kernel
theorem f_240_10 : zft 240 10 = some (2, .bipush (-104)) := by decide +kernel
theorem f_240_12 : zft 240 12 = some (1, .ireturn) := by decide +kernel
theorem f_240_13 : zft 240 13 = some (1, .iconst 0) := by decide +kernel
theorem f_240_14 : zft 240 14 = some (1, .istore_n 1) := by decide +kernel
theorem f_240_15 : zft 240 15 = some (1, .iconst 0) := by decide +kernel
theorem f_240_16 : zft 240 16 = some (1, .istore_n 2) := by decide +kernel
theorem f_240_17 : zft 240 17 = some (1, .iload_n 2) := by decide +kernel
theorem f_240_18 : zft 240 18 = some (1, .aload_n 0) := by decide +kernel
theorem f_240_19 : zft 240 19 = some (3, .getfield 7) := by decide +kernel
theorem f_240_22 : zft 240 22 = some (2, .bipush 120) := by decide +kernel
theorem f_240_24 : zft 240 24 = some (1, .iaload) := by decide +kernel
theorem f_240_25 : zft 240 25 = some (3, .if_icmp .ge 41) := by decide +kernel
theorem f_240_28 : zft 240 28 = some (1, .aload_n 0) := by decide +kernel
theorem f_240_29 : zft 240 29 = some (1, .iload_n 2) := by decide +kernel
theorem f_240_30 : zft 240 30 = some (3, .invokevirtual 249) := by decide +kernel
theorem f_240_33 : zft 240 33 = some (1, .aload_n 0) := by decide +kernel
theorem f_240_34 : zft 240 34 = some (3, .getfield 55) := by decide +kernel
theorem f_240_37 : zft 240 37 = some (1, .aload_n 0) := by decide +kernel
theorem f_240_38 : zft 240 38 = some (3, .invokevirtual 252) := by decide +kernel
theorem f_240_41 : zft 240 41 = some (1, .iaload) := by decide +kernel
theorem f_240_42 : zft 240 42 = some (1, .iload_n 1) := by decide +kernel
theorem f_240_43 : zft 240 43 = some (3, .if_icmp .le 15) := by decide +kernel
theorem f_240_46 : zft 240 46 = some (1, .aload_n 0) := by decide +kernel
theorem f_240_47 : zft 240 47 = some (3, .getfield 55) := by decide +kernel
theorem f_240_50 : zft 240 50 = some (1, .aload_n 0) := by decide +kernel
theorem f_240_51 : zft 240 51 = some (3, .invokevirtual 252) := by decide +kernel
theorem f_240_54 : zft 240 54 = some (1, .iaload) := by decide +kernel
theorem f_240_55 : zft 240 55 = some (3, .goto 4) := by decide +kernel
theorem f_240_58 : zft 240 58 = some (1, .iload_n 1) := by decide +kernel
theorem f_240_59 : zft 240 59 = some (1, .istore_n 1) := by decide +kernel
theorem f_240_60 : zft 240 60 = some (3, .iinc 2 1) := by decide +kernel
theorem f_240_63 : zft 240 63 = some (3, .goto (-46)) := by decide +kernel
theorem f_240_66 : zft 240 66 = some (1, .iload_n 1) := by decide +kernel
theorem f_240_67 : zft 240 67 = some (1, .ireturn) := by decide +kernel
theorem f_241_0 : zft 241 0 = some (1, .aload_n 0) := by decide +kernel
theorem f_241_1 : zft 241 1 = some (3, .invokevirtual 240) := by decide +kernel
theorem f_241_4 : zft 241 4 = some (1, .iload_n 1) := by decide +kernel
theorem f_241_5 : zft 241 5 = some (1, .iconst 1) := by decide +kernel
theorem f_241_6 : zft 241 6 = some (1, .aload_n 0) := by decide +kernel
theorem f_241_7 : zft 241 7 = some (3, .getfield 167) := by decide +kernel
theorem f_241_10 : zft 241 10 = some (1, .iconst 1) := by decide +kernel
theorem f_241_11 : zft 241 11 = some (1, .isub) := by decide +kernel
theorem f_241_12 : zft 241 12 = some (3, .invokestatic 58) := by decide +kernel
theorem f_241_15 : zft 241 15 = some (3, .ifCond .ne 6) := by decide +kernel
theorem f_241_18 : zft 241 18 = some (2, .bipush (-101)) := by decide +kernel
theorem f_241_20 : zft 241 20 = some (1, .ireturn) := by decide +kernel
theorem f_241_21 : zft 241 21 = some (1, .aload_n 0) := by decide +kernel
theorem f_241_22 : zft 241 22 = some (1, .aload_n 0) := by decide +kernel
theorem f_241_23 : zft 241 23 = some (3, .getfield 31) := by decide +kernel
theorem f_241_26 : zft 241 26 = some (1, .iload_n 1) := by decide +kernel
theorem f_241_27 : zft 241 27 = some (1, .iaload) := by decide +kernel
theorem f_241_28 : zft 241 28 = some (3, .invokevirtual 176) := by decide +kernel
theorem f_241_31 : zft 241 31 = some (1, .aload_n 0) := by decide +kernel
theorem f_241_32 : zft 241 32 = some (1, .aload_n 0) := by decide +kernel
theorem f_241_33 : zft 241 33 = some (3, .getfield 31) := by decide +kernel
theorem f_241_36 : zft 241 36 = some (1, .iload_n 1) := by decide +kernel
theorem f_241_37 : zft 241 37 = some (1, .iconst 1) := by decide +kernel
theorem f_241_38 : zft 241 38 = some (1, .isub) := by decide +kernel
theorem f_241_39 : zft 241 39 = some (1, .iaload) := by decide +kernel
theorem f_241_40 : zft 241 40 = some (3, .invokevirtual 176) := by decide +kernel
theorem f_241_43 : zft 241 43 = some (1, .isub) := by decide +kernel
theorem f_241_44 : zft 241 44 = some (3, .sipush 1000) := by decide +kernel
theorem f_241_47 : zft 241 47 = some (1, .iadd) := by decide +kernel
theorem f_241_48 : zft 241 48 = some (1, .ireturn) := by decide +kernel
theorem f_242_0 : zft 242 0 = some (1, .aload_n 0) := by decide +kernel
theorem f_242_1 : zft 242 1 = some (3, .invokevirtual 240) := by decide +kernel
theorem f_242_4 : zft 242 4 = some (1, .iconst 0) := by decide +kernel
theorem f_242_5 : zft 242 5 = some (1, .istore_n 1) := by decide +kernel
theorem f_242_6 : zft 242 6 = some (1, .iconst 1) := by decide +kernel
theorem f_242_7 : zft 242 7 = some (1, .istore_n 2) := by decide +kernel
theorem f_242_8 : zft 242 8 = some (1, .iload_n 2) := by decide +kernel
theorem f_242_9 : zft 242 9 = some (1, .aload_n 0) := by decide +kernel
theorem f_242_10 : zft 242 10 = some (3, .getfield 167) := by decide +kernel
theorem f_242_13 : zft 242 13 = some (3, .if_icmp .ge 42) := by decide +kernel
theorem f_242_16 : zft 242 16 = some (1, .iload_n 1) := by decide +kernel
theorem f_242_17 : zft 242 17 = some (1, .aload_n 0) := by decide +kernel
theorem f_242_18 : zft 242 18 = some (1, .aload_n 0) := by decide +kernel
theorem f_242_19 : zft 242 19 = some (3, .getfield 31) := by decide +kernel
theorem f_242_22 : zft 242 22 = some (1, .iload_n 2) := by decide +kernel
theorem f_242_23 : zft 242 23 = some (1, .iaload) := by decide +kernel
theorem f_242_24 : zft 242 24 = some (3, .invokevirtual 176) := by decide +kernel
theorem f_242_27 : zft 242 27 = some (1, .aload_n 0) := by decide +kernel
theorem f_242_28 : zft 242 28 = some (1, .aload_n 0) := by decide +kernel
theorem f_242_29 : zft 242 29 = some (3, .getfield 31) := by decide +kernel
theorem f_242_32 : zft 242 32 = some (1, .iload_n 2) := by decide +kernel
theorem f_242_33 : zft 242 33 = some (1, .iconst 1) := by decide +kernel
theorem f_242_34 : zft 242 34 = some (1, .isub) := by decide +kernel
theorem f_242_35 : zft 242 35 = some (1, .iaload) := by decide +kernel
theorem f_242_36 : zft 242 36 = some (3, .invokevirtual 176) := by decide +kernel
theorem f_242_39 : zft 242 39 = some (3, .if_icmp .ge 7) := by decide +kernel
theorem f_242_42 : zft 242 42 = some (1, .iconst 1) := by decide +kernel
theorem f_242_43 : zft 242 43 = some (3, .goto 4) := by decide +kernel
theorem f_242_46 : zft 242 46 = some (1, .iconst 0) := by decide +kernel
theorem f_242_47 : zft 242 47 = some (1, .iadd) := by decide +kernel
theorem f_242_48 : zft 242 48 = some (1, .istore_n 1) := by decide +kernel
theorem f_242_49 : zft 242 49 = some (3, .iinc 2 1) := by decide +kernel
theorem f_242_52 : zft 242 52 = some (3, .goto (-44)) := by decide +kernel
theorem f_242_55 : zft 242 55 = some (1, .iload_n 1) := by decide +kernel
theorem f_242_56 : zft 242 56 = some (1, .ireturn) := by decide +kernel
theorem f_243_0 : zft 243 0 = some (1, .aload_n 0) := by decide +kernel
theorem f_243_1 : zft 243 1 = some (3, .invokevirtual 240) := by decide +kernel
theorem f_243_4 : zft 243 4 = some (1, .iconst 0) := by decide +kernel
theorem f_243_5 : zft 243 5 = some (1, .istore_n 1) := by decide +kernel
theorem f_243_6 : zft 243 6 = some (1, .iconst 1) := by decide +kernel
theorem f_243_7 : zft 243 7 = some (1, .istore_n 2) := by decide +kernel
theorem f_243_8 : zft 243 8 = some (1, .iload_n 2) := by decide +kernel
theorem f_243_9 : zft 243 9 = some (1, .aload_n 0) := by decide +kernel
theorem f_243_10 : zft 243 10 = some (3, .getfield 167) := by decide +kernel
theorem f_243_13 : zft 243 13 = some (3, .if_icmp .ge 36) := by decide +kernel
theorem f_243_16 : zft 243 16 = some (1, .aload_n 0) := by decide +kernel
theorem f_243_17 : zft 243 17 = some (1, .aload_n 0) := by decide +kernel
theorem f_243_18 : zft 243 18 = some (3, .getfield 31) := by decide +kernel
theorem f_243_21 : zft 243 21 = some (1, .iload_n 2) := by decide +kernel
theorem f_243_22 : zft 243 22 = some (1, .iconst 1) := by decide +kernel
theorem f_243_23 : zft 243 23 = some (1, .isub) := by decide +kernel
theorem f_243_24 : zft 243 24 = some (1, .iaload) := by decide +kernel
theorem f_243_25 : zft 243 25 = some (1, .iconst (-1)) := by decide +kernel
theorem f_243_26 : zft 243 26 = some (3, .invokevirtual 154) := by decide +kernel
theorem f_243_29 : zft 243 29 = some (1, .iload_n 1) := by decide +kernel
theorem f_243_30 : zft 243 30 = some (1, .aload_n 0) := by decide +kernel
theorem f_243_31 : zft 243 31 = some (3, .getfield 28) := by decide +kernel
theorem f_243_34 : zft 243 34 = some (1, .aload_n 0) := by decide +kernel
theorem f_243_35 : zft 243 35 = some (3, .getfield 31) := by decide +kernel
theorem f_243_38 : zft 243 38 = some (1, .iload_n 2) := by decide +kernel
theorem f_243_39 : zft 243 39 = some (1, .iaload) := by decide +kernel
theorem f_243_40 : zft 243 40 = some (1, .iaload) := by decide +kernel
theorem f_243_41 : zft 243 41 = some (1, .iadd) := by decide +kernel
theorem f_243_42 : zft 243 42 = some (1, .istore_n 1) := by decide +kernel
theorem f_243_43 : zft 243 43 = some (3, .iinc 2 1) := by decide +kernel
theorem f_243_46 : zft 243 46 = some (3, .goto (-38)) := by decide +kernel
theorem f_243_49 : zft 243 49 = some (1, .iload_n 1) := by decide +kernel
theorem f_243_50 : zft 243 50 = some (1, .ireturn) := by decide +kernel
theorem f_244_0 : zft 244 0 = some (1, .aload_n 0) := by decide +kernel
theorem f_244_1 : zft 244 1 = some (3, .getfield 7) := by decide +kernel
theorem f_244_4 : zft 244 4 = some (2, .bipush 120) := by decide +kernel
theorem f_244_6 : zft 244 6 = some (1, .iaload) := by decide +kernel
theorem f_244_7 : zft 244 7 = some (3, .ifCond .ne 7) := by decide +kernel
theorem f_244_10 : zft 244 10 = some (3, .ldc2_w 260) := by decide +kernel
theorem f_244_13 : zft 244 13 = some (1, .lreturn) := by decide +kernel
theorem f_244_14 : zft 244 14 = some (1, .iconst 0) := by decide +kernel
theorem f_244_15 : zft 244 15 = some (1, .istore_n 1) := by decide +kernel
theorem f_244_16 : zft 244 16 = some (1, .iconst 0) := by decide +kernel
theorem f_244_17 : zft 244 17 = some (1, .istore_n 2) := by decide +kernel
theorem f_244_18 : zft 244 18 = some (1, .iload_n 2) := by decide +kernel
theorem f_244_19 : zft 244 19 = some (1, .aload_n 0) := by decide +kernel
theorem f_244_20 : zft 244 20 = some (3, .getfield 7) := by decide +kernel
theorem f_244_23 : zft 244 23 = some (2, .bipush 120) := by decide +kernel
theorem f_244_25 : zft 244 25 = some (1, .iaload) := by decide +kernel
theorem f_244_26 : zft 244 26 = some (3, .if_icmp .ge 17) := by decide +kernel
theorem f_244_29 : zft 244 29 = some (1, .iload_n 1) := by decide +kernel
theorem f_244_30 : zft 244 30 = some (1, .aload_n 0) := by decide +kernel
theorem f_244_31 : zft 244 31 = some (1, .iload_n 2) := by decide +kernel
theorem f_244_32 : zft 244 32 = some (3, .invokevirtual 176) := by decide +kernel
theorem f_244_35 : zft 244 35 = some (1, .iadd) := by decide +kernel
theorem f_244_36 : zft 244 36 = some (1, .istore_n 1) := by decide +kernel
theorem f_244_37 : zft 244 37 = some (3, .iinc 2 1) := by decide +kernel
theorem f_244_40 : zft 244 40 = some (3, .goto (-22)) := by decide +kernel
theorem f_244_43 : zft 244 43 = some (1, .iload_n 1) := by decide +kernel
theorem f_244_44 : zft 244 44 = some (1, .i2d) := by decide +kernel
theorem f_244_45 : zft 244 45 = some (1, .aload_n 0) := by decide +kernel
theorem f_244_46 : zft 244 46 = some (3, .getfield 7) := by decide +kernel
theorem f_244_49 : zft 244 49 = some (2, .bipush 120) := by decide +kernel
theorem f_244_51 : zft 244 51 = some (1, .iaload) := by decide +kernel
theorem f_244_52 : zft 244 52 = some (1, .i2d) := by decide +kernel
theorem f_244_53 : zft 244 53 = some (1, .ddiv) := by decide +kernel
theorem f_244_54 : zft 244 54 = some (3, .invokestatic 262) := by decide +kernel
theorem f_244_57 : zft 244 57 = some (1, .lreturn) := by decide +kernel
theorem f_245_0 : zft 245 0 = some (1, .aload_n 0) := by decide +kernel
theorem f_245_1 : zft 245 1 = some (1, .iconst 1) := by decide +kernel
theorem f_245_2 : zft 245 2 = some (3, .putfield 268) := by decide +kernel
theorem f_245_5 : zft 245 5 = some (1, .iconst 0) := by decide +kernel
theorem f_245_6 : zft 245 6 = some (1, .istore_n 1) := by decide +kernel
theorem f_245_7 : zft 245 7 = some (1, .iload_n 1) := by decide +kernel
theorem f_245_8 : zft 245 8 = some (2, .bipush 124) := by decide +kernel
theorem f_245_10 : zft 245 10 = some (3, .if_icmp .ge 21) := by decide +kernel
theorem f_245_13 : zft 245 13 = some (1, .aload_n 0) := by decide +kernel
theorem f_245_14 : zft 245 14 = some (3, .getfield 16) := by decide +kernel
theorem f_245_17 : zft 245 17 = some (1, .iload_n 1) := by decide +kernel
theorem f_245_18 : zft 245 18 = some (1, .aload_n 0) := by decide +kernel
theorem f_245_19 : zft 245 19 = some (3, .getfield 7) := by decide +kernel
theorem f_245_22 : zft 245 22 = some (1, .iload_n 1) := by decide +kernel
theorem f_245_23 : zft 245 23 = some (1, .iaload) := by decide +kernel
theorem f_245_24 : zft 245 24 = some (1, .iastore) := by decide +kernel
theorem f_245_25 : zft 245 25 = some (3, .iinc 1 1) := by decide +kernel
theorem f_245_28 : zft 245 28 = some (3, .goto (-21)) := by decide +kernel
theorem f_245_31 : zft 245 31 = some (1, .aload_n 0) := by decide +kernel
theorem f_245_32 : zft 245 32 = some (3, .getfield 7) := by decide +kernel
theorem f_245_35 : zft 245 35 = some (2, .bipush 120) := by decide +kernel
theorem f_245_37 : zft 245 37 = some (1, .iaload) := by decide +kernel
theorem f_245_38 : zft 245 38 = some (1, .ireturn) := by decide +kernel
theorem f_246_0 : zft 246 0 = some (1, .aload_n 0) := by decide +kernel
theorem f_246_1 : zft 246 1 = some (3, .getfield 268) := by decide +kernel
theorem f_246_4 : zft 246 4 = some (3, .ifCond .ne 6) := by decide +kernel
theorem f_246_7 : zft 246 7 = some (2, .bipush (-105)) := by decide +kernel
theorem f_246_9 : zft 246 9 = some (1, .ireturn) := by decide +kernel
theorem f_246_10 : zft 246 10 = some (1, .iconst 0) := by decide +kernel
theorem f_246_11 : zft 246 11 = some (1, .istore_n 1) := by decide +kernel
theorem f_246_12 : zft 246 12 = some (1, .iload_n 1) := by decide +kernel
theorem f_246_13 : zft 246 13 = some (2, .bipush 124) := by decide +kernel
theorem f_246_15 : zft 246 15 = some (3, .if_icmp .ge 21) := by decide +kernel
theorem f_246_18 : zft 246 18 = some (1, .aload_n 0) := by decide +kernel
theorem f_246_19 : zft 246 19 = some (3, .getfield 7) := by decide +kernel
theorem f_246_22 : zft 246 22 = some (1, .iload_n 1) := by decide +kernel
theorem f_246_23 : zft 246 23 = some (1, .aload_n 0) := by decide +kernel
theorem f_246_24 : zft 246 24 = some (3, .getfield 16) := by decide +kernel
theorem f_246_27 : zft 246 27 = some (1, .iload_n 1) := by decide +kernel
theorem f_246_28 : zft 246 28 = some (1, .iaload) := by decide +kernel
theorem f_246_29 : zft 246 29 = some (1, .iastore) := by decide +kernel
theorem f_246_30 : zft 246 30 = some (3, .iinc 1 1) := by decide +kernel
theorem f_246_33 : zft 246 33 = some (3, .goto (-21)) := by decide +kernel
theorem f_246_36 : zft 246 36 = some (1, .aload_n 0) := by decide +kernel
theorem f_246_37 : zft 246 37 = some (1, .iconst 0) := by decide +kernel
theorem f_246_38 : zft 246 38 = some (3, .putfield 76) := by decide +kernel
theorem f_246_41 : zft 246 41 = some (1, .aload_n 0) := by decide +kernel
theorem f_246_42 : zft 246 42 = some (3, .getfield 7) := by decide +kernel
theorem f_246_45 : zft 246 45 = some (2, .bipush 120) := by decide +kernel
theorem f_246_47 : zft 246 47 = some (1, .iaload) := by decide +kernel
theorem f_246_48 : zft 246 48 = some (1, .ireturn) := by decide +kernel
theorem f_247_0 : zft 247 0 = some (1, .dload_n 0) := by decide +kernel
theorem f_247_1 : zft 247 1 = some (1, .dload_n 0) := by decide +kernel
theorem f_247_2 : zft 247 2 = some (1, .dcmp .l) := by decide +kernel
theorem f_247_3 : zft 247 3 = some (3, .ifCond .eq 7) := by decide +kernel
theorem f_247_6 : zft 247 6 = some (1, .iconst 1) := by decide +kernel
theorem f_247_7 : zft 247 7 = some (3, .goto 4) := by decide +kernel
theorem f_247_10 : zft 247 10 = some (1, .iconst 0) := by decide +kernel
theorem f_247_11 : zft 247 11 = some (1, .ireturn) := by decide +kernel
theorem f_248_0 : zft 248 0 = some (1, .dload_n 0) := by decide +kernel
theorem f_248_1 : zft 248 1 = some (3, .invokestatic 122) := by decide +kernel
theorem f_248_4 : zft 248 4 = some (3, .ifCond .ne 8) := by decide +kernel
theorem f_248_7 : zft 248 7 = some (1, .dload_n 0) := by decide +kernel
theorem f_248_8 : zft 248 8 = some (3, .invokestatic 134) := by decide +kernel
theorem f_248_11 : zft 248 11 = some (1, .lreturn) := by decide +kernel
theorem f_248_12 : zft 248 12 = some (3, .ldc2_w 137) := by decide +kernel
theorem f_248_15 : zft 248 15 = some (1, .lreturn) := by decide +kernel
theorem f_249_0 : zft 249 0 = some (1, .iload_n 0) := by decide +kernel
theorem f_249_1 : zft 249 1 = some (1, .iload_n 0) := by decide +kernel
theorem f_249_2 : zft 249 2 = some (1, .iconst 1) := by decide +kernel
theorem f_249_3 : zft 249 3 = some (1, .iushr) := by decide +kernel
theorem f_249_4 : zft 249 4 = some (3, .ldc_w 265) := by decide +kernel
theorem f_249_7 : zft 249 7 = some (1, .iand) := by decide +kernel
theorem f_249_8 : zft 249 8 = some (1, .isub) := by decide +kernel
theorem f_249_9 : zft 249 9 = some (1, .istore_n 0) := by decide +kernel
theorem f_249_10 : zft 249 10 = some (1, .iload_n 0) := by decide +kernel
theorem f_249_11 : zft 249 11 = some (3, .ldc_w 266) := by decide +kernel
theorem f_249_14 : zft 249 14 = some (1, .iand) := by decide +kernel
theorem f_249_15 : zft 249 15 = some (1, .iload_n 0) := by decide +kernel
theorem f_249_16 : zft 249 16 = some (1, .iconst 2) := by decide +kernel
theorem f_249_17 : zft 249 17 = some (1, .iushr) := by decide +kernel
theorem f_249_18 : zft 249 18 = some (3, .ldc_w 266) := by decide +kernel
theorem f_249_21 : zft 249 21 = some (1, .iand) := by decide +kernel
theorem f_249_22 : zft 249 22 = some (1, .iadd) := by decide +kernel
theorem f_249_23 : zft 249 23 = some (1, .istore_n 0) := by decide +kernel
theorem f_249_24 : zft 249 24 = some (1, .iload_n 0) := by decide +kernel
theorem f_249_25 : zft 249 25 = some (1, .iload_n 0) := by decide +kernel
theorem f_249_26 : zft 249 26 = some (1, .iconst 4) := by decide +kernel
theorem f_249_27 : zft 249 27 = some (1, .iushr) := by decide +kernel
theorem f_249_28 : zft 249 28 = some (1, .iadd) := by decide +kernel
theorem f_249_29 : zft 249 29 = some (3, .ldc_w 267) := by decide +kernel
theorem f_249_32 : zft 249 32 = some (1, .iand) := by decide +kernel
theorem f_249_33 : zft 249 33 = some (1, .istore_n 0) := by decide +kernel
theorem f_249_34 : zft 249 34 = some (1, .iload_n 0) := by decide +kernel
theorem f_249_35 : zft 249 35 = some (1, .iload_n 0) := by decide +kernel
theorem f_249_36 : zft 249 36 = some (2, .bipush 8) := by decide +kernel
theorem f_249_38 : zft 249 38 = some (1, .iushr) := by decide +kernel
theorem f_249_39 : zft 249 39 = some (1, .iadd) := by decide +kernel
theorem f_249_40 : zft 249 40 = some (1, .istore_n 0) := by decide +kernel
theorem f_249_41 : zft 249 41 = some (1, .iload_n 0) := by decide +kernel
theorem f_249_42 : zft 249 42 = some (1, .iload_n 0) := by decide +kernel
theorem f_249_43 : zft 249 43 = some (2, .bipush 16) := by decide +kernel
theorem f_249_45 : zft 249 45 = some (1, .iushr) := by decide +kernel
theorem f_249_46 : zft 249 46 = some (1, .iadd) := by decide +kernel
theorem f_249_47 : zft 249 47 = some (1, .istore_n 0) := by decide +kernel
theorem f_249_48 : zft 249 48 = some (1, .iload_n 0) := by decide +kernel
theorem f_249_49 : zft 249 49 = some (2, .bipush 63) := by decide +kernel
theorem f_249_51 : zft 249 51 = some (1, .iand) := by decide +kernel
theorem f_249_52 : zft 249 52 = some (1, .ireturn) := by decide +kernel
theorem f_250_0 : zft 250 0 = some (1, .iload_n 0) := by decide +kernel
theorem f_250_1 : zft 250 1 = some (2, .bipush 31) := by decide +kernel
theorem f_250_3 : zft 250 3 = some (1, .ishr) := by decide +kernel
theorem f_250_4 : zft 250 4 = some (1, .iload_n 0) := by decide +kernel
theorem f_250_5 : zft 250 5 = some (1, .ineg) := by decide +kernel
theorem f_250_6 : zft 250 6 = some (2, .bipush 31) := by decide +kernel
theorem f_250_8 : zft 250 8 = some (1, .iushr) := by decide +kernel
theorem f_250_9 : zft 250 9 = some (1, .ior) := by decide +kernel
theorem f_250_10 : zft 250 10 = some (1, .ireturn) := by decide +kernel
theorem f_251_0 : zft 251 0 = some (1, .iload_n 0) := by decide +kernel
theorem f_251_1 : zft 251 1 = some (3, .ifCond .ge 8) := by decide +kernel
theorem f_251_4 : zft 251 4 = some (1, .iload_n 0) := by decide +kernel
theorem f_251_5 : zft 251 5 = some (1, .ineg) := by decide +kernel
theorem f_251_6 : zft 251 6 = some (3, .goto 4) := by decide +kernel
theorem f_251_9 : zft 251 9 = some (1, .iload_n 0) := by decide +kernel
theorem f_251_10 : zft 251 10 = some (1, .ireturn) := by decide +kernel
theorem f_252_0 : zft 252 0 = some (1, .iload_n 0) := by decide +kernel
theorem f_252_1 : zft 252 1 = some (1, .iload_n 1) := by decide +kernel
theorem f_252_2 : zft 252 2 = some (3, .if_icmp .lt 7) := by decide +kernel
theorem f_252_5 : zft 252 5 = some (1, .iload_n 0) := by decide +kernel
theorem f_252_6 : zft 252 6 = some (3, .goto 4) := by decide +kernel
theorem f_252_9 : zft 252 9 = some (1, .iload_n 1) := by decide +kernel
theorem f_252_10 : zft 252 10 = some (1, .ireturn) := by decide +kernel
theorem f_253_0 : zft 253 0 = some (1, .iload_n 0) := by decide +kernel
theorem f_253_1 : zft 253 1 = some (1, .iload_n 1) := by decide +kernel
theorem f_253_2 : zft 253 2 = some (3, .if_icmp .gt 7) := by decide +kernel
theorem f_253_5 : zft 253 5 = some (1, .iload_n 0) := by decide +kernel
theorem f_253_6 : zft 253 6 = some (3, .goto 4) := by decide +kernel
theorem f_253_9 : zft 253 9 = some (1, .iload_n 1) := by decide +kernel
theorem f_253_10 : zft 253 10 = some (1, .ireturn) := by decide +kernel
theorem f_254_0 : zft 254 0 = some (1, .iconst 0) := by decide +kernel
theorem f_254_1 : zft 254 1 = some (1, .istore_n 2) := by decide +kernel
theorem f_254_2 : zft 254 2 = some (1, .aload_n 0) := by decide +kernel
theorem f_254_3 : zft 254 3 = some (1, .arraylength) := by decide +kernel
theorem f_254_4 : zft 254 4 = some (1, .istore_n 3) := by decide +kernel
theorem f_254_5 : zft 254 5 = some (1, .iload_n 2) := by decide +kernel
theorem f_254_6 : zft 254 6 = some (1, .iload_n 3) := by decide +kernel
theorem f_254_7 : zft 254 7 = some (3, .if_icmp .ge 13) := by decide +kernel
theorem f_254_10 : zft 254 10 = some (1, .aload_n 0) := by decide +kernel
theorem f_254_11 : zft 254 11 = some (1, .iload_n 2) := by decide +kernel
theorem f_254_12 : zft 254 12 = some (1, .iload_n 1) := by decide +kernel
theorem f_254_13 : zft 254 13 = some (1, .iastore) := by decide +kernel
theorem f_254_14 : zft 254 14 = some (3, .iinc 2 1) := by decide +kernel
theorem f_254_17 : zft 254 17 = some (3, .goto (-12)) := by decide +kernel
theorem f_254_20 : zft 254 20 = some (1, .return_) := by decide +kernel
theorem f_255_0 : zft 255 0 = some (3, .new 7) := by decide +kernel
theorem f_255_3 : zft 255 3 = some (1, .dup) := by decide +kernel
theorem f_255_4 : zft 255 4 = some (3, .invokespecial 9) := by decide +kernel
theorem f_255_7 : zft 255 7 = some (1, .astore_n 1) := by decide +kernel
theorem f_255_8 : zft 255 8 = some (3, .new 10) := by decide +kernel
theorem f_255_11 : zft 255 11 = some (1, .dup) := by decide +kernel
theorem f_255_12 : zft 255 12 = some (3, .invokespecial 12) := by decide +kernel
theorem f_255_15 : zft 255 15 = some (1, .astore_n 2) := by decide +kernel
theorem f_255_16 : zft 255 16 = some (1, .iconst 0) := by decide +kernel
theorem f_255_17 : zft 255 17 = some (1, .istore_n 3) := by decide +kernel
theorem f_255_18 : zft 255 18 = some (1, .iload_n 3) := by decide +kernel
theorem f_255_19 : zft 255 19 = some (1, .aload_n 0) := by decide +kernel
theorem f_255_20 : zft 255 20 = some (1, .arraylength) := by decide +kernel
theorem f_255_21 : zft 255 21 = some (1, .iconst 5) := by decide +kernel
theorem f_255_22 : zft 255 22 = some (1, .isub) := by decide +kernel
theorem f_255_23 : zft 255 23 = some (3, .if_icmp .gt 1149) := by decide +kernel
theorem f_255_26 : zft 255 26 = some (1, .aload_n 0) := by decide +kernel
theorem f_255_27 : zft 255 27 = some (1, .iload_n 3) := by decide +kernel
theorem f_255_28 : zft 255 28 = some (1, .iaload) := by decide +kernel
theorem f_255_29 : zft 255 29 = some (2, .bipush 63) := by decide +kernel
theorem f_255_31 : zft 255 31 = some (1, .iand) := by decide +kernel
theorem f_255_32 : zft 255 32 = some (180, .tableswitch 1134 0 40 #[180, 233, 266, 299, 332, 355, 378, 401, 434, 447, 460, 483, 506, 519, 532, 545, 568, 601, 634, 667, 680, 713, 746, 799, 822, 845, 858, 881, 904, 917, 930, 953, 976, 999, 1032, 1045, 1068, 1081, 1094, 1108, 1121]) := by decide +kernel
theorem f_255_212 : zft 255 212 = some (1, .aload_n 1) := by decide +kernel
theorem f_255_213 : zft 255 213 = some (1, .aload_n 0) := by decide +kernel
theorem f_255_214 : zft 255 214 = some (1, .iload_n 3) := by decide +kernel
theorem f_255_215 : zft 255 215 = some (1, .iconst 1) := by decide +kernel
theorem f_255_216 : zft 255 216 = some (1, .iadd) := by decide +kernel
theorem f_255_217 : zft 255 217 = some (1, .iaload) := by decide +kernel
theorem f_255_218 : zft 255 218 = some (1, .aload_n 0) := by decide +kernel
theorem f_255_219 : zft 255 219 = some (1, .iload_n 3) := by decide +kernel
theorem f_255_220 : zft 255 220 = some (1, .iconst 2) := by decide +kernel
theorem f_255_221 : zft 255 221 = some (1, .iadd) := by decide +kernel
theorem f_255_222 : zft 255 222 = some (1, .iaload) := by decide +kernel
theorem f_255_223 : zft 255 223 = some (1, .aload_n 0) := by decide +kernel
theorem f_255_224 : zft 255 224 = some (1, .iload_n 3) := by decide +kernel
theorem f_255_225 : zft 255 225 = some (1, .iconst 3) := by decide +kernel
theorem f_255_226 : zft 255 226 = some (1, .iadd) := by decide +kernel
theorem f_255_227 : zft 255 227 = some (1, .iaload) := by decide +kernel
theorem f_255_228 : zft 255 228 = some (1, .aload_n 0) := by decide +kernel
theorem f_255_229 : zft 255 229 = some (1, .iload_n 3) := by decide +kernel
theorem f_255_230 : zft 255 230 = some (1, .iconst 4) := by decide +kernel
theorem f_255_231 : zft 255 231 = some (1, .iadd) := by decide +kernel
theorem f_255_232 : zft 255 232 = some (1, .iaload) := by decide +kernel
theorem f_255_233 : zft 255 233 = some (3, .invokevirtual 13) := by decide +kernel
theorem f_255_236 : zft 255 236 = some (1, .aload_n 2) := by decide +kernel
theorem f_255_237 : zft 255 237 = some (1, .aload_n 0) := by decide +kernel
theorem f_255_238 : zft 255 238 = some (1, .iload_n 3) := by decide +kernel
theorem f_255_239 : zft 255 239 = some (1, .iconst 1) := by decide +kernel
theorem f_255_240 : zft 255 240 = some (1, .iadd) := by decide +kernel
theorem f_255_241 : zft 255 241 = some (1, .iaload) := by decide +kernel
theorem f_255_242 : zft 255 242 = some (1, .aload_n 0) := by decide +kernel
theorem f_255_243 : zft 255 243 = some (1, .iload_n 3) := by decide +kernel
theorem f_255_244 : zft 255 244 = some (1, .iconst 2) := by decide +kernel
theorem f_255_245 : zft 255 245 = some (1, .iadd) := by decide +kernel
theorem f_255_246 : zft 255 246 = some (1, .iaload) := by decide +kernel
theorem f_255_247 : zft 255 247 = some (1, .aload_n 0) := by decide +kernel
theorem f_255_248 : zft 255 248 = some (1, .iload_n 3) := by decide +kernel
theorem f_255_249 : zft 255 249 = some (1, .iconst 3) := by decide +kernel
theorem f_255_250 : zft 255 250 = some (1, .iadd) := by decide +kernel
theorem f_255_251 : zft 255 251 = some (1, .iaload) := by decide +kernel
theorem f_255_252 : zft 255 252 = some (1, .aload_n 0) := by decide +kernel
theorem f_255_253 : zft 255 253 = some (1, .iload_n 3) := by decide +kernel
theorem f_255_254 : zft 255 254 = some (1, .iconst 4) := by decide +kernel
theorem f_255_255 : zft 255 255 = some (1, .iadd) := by decide +kernel
theorem f_255_256 : zft 255 256 = some (1, .iaload) := by decide +kernel
theorem f_255_257 : zft 255 257 = some (3, .invokevirtual 17) := by decide +kernel
theorem f_255_260 : zft 255 260 = some (3, .if_icmp .eq 906) := by decide +kernel
theorem f_255_263 : zft 255 263 = some (1, .iconst 0) := by decide +kernel
theorem f_255_264 : zft 255 264 = some (1, .ireturn) := by decide +kernel
theorem f_255_265 : zft 255 265 = some (1, .aload_n 1) := by decide +kernel
theorem f_255_266 : zft 255 266 = some (1, .aload_n 0) := by decide +kernel
theorem f_255_267 : zft 255 267 = some (1, .iload_n 3) := by decide +kernel
theorem f_255_268 : zft 255 268 = some (1, .iconst 1) := by decide +kernel
theorem f_255_269 : zft 255 269 = some (1, .iadd) := by decide +kernel
theorem f_255_270 : zft 255 270 = some (1, .iaload) := by decide +kernel
theorem f_255_271 : zft 255 271 = some (1, .aload_n 0) := by decide +kernel
theorem f_255_272 : zft 255 272 = some (1, .iload_n 3) := by decide +kernel
theorem f_255_273 : zft 255 273 = some (1, .iconst 2) := by decide +kernel
theorem f_255_274 : zft 255 274 = some (1, .iadd) := by decide +kernel
theorem f_255_275 : zft 255 275 = some (1, .iaload) := by decide +kernel
theorem f_255_276 : zft 255 276 = some (3, .invokevirtual 18) := by decide +kernel
theorem f_255_279 : zft 255 279 = some (1, .aload_n 2) := by decide +kernel
theorem f_255_280 : zft 255 280 = some (1, .aload_n 0) := by decide +kernel
theorem f_255_281 : zft 255 281 = some (1, .iload_n 3) := by decide +kernel
theorem f_255_282 : zft 255 282 = some (1, .iconst 1) := by decide +kernel
theorem f_255_283 : zft 255 283 = some (1, .iadd) := by decide +kernel
theorem f_255_284 : zft 255 284 = some (1, .iaload) := by decide +kernel
theorem f_255_285 : zft 255 285 = some (1, .aload_n 0) := by decide +kernel
theorem f_255_286 : zft 255 286 = some (1, .iload_n 3) := by decide +kernel
theorem f_255_287 : zft 255 287 = some (1, .iconst 2) := by decide +kernel
theorem f_255_288 : zft 255 288 = some (1, .iadd) := by decide +kernel
theorem f_255_289 : zft 255 289 = some (1, .iaload) := by decide +kernel
theorem f_255_290 : zft 255 290 = some (3, .invokevirtual 22) := by decide +kernel
theorem f_255_293 : zft 255 293 = some (3, .if_icmp .eq 873) := by decide +kernel
theorem f_255_296 : zft 255 296 = some (1, .iconst 0) := by decide +kernel
theorem f_255_297 : zft 255 297 = some (1, .ireturn) := by decide +kernel
theorem f_255_298 : zft 255 298 = some (1, .aload_n 1) := by decide +kernel
theorem f_255_299 : zft 255 299 = some (1, .aload_n 0) := by decide +kernel
theorem f_255_300 : zft 255 300 = some (1, .iload_n 3) := by decide +kernel
theorem f_255_301 : zft 255 301 = some (1, .iconst 1) := by decide +kernel
theorem f_255_302 : zft 255 302 = some (1, .iadd) := by decide +kernel
theorem f_255_303 : zft 255 303 = some (1, .iaload) := by decide +kernel
theorem f_255_304 : zft 255 304 = some (1, .aload_n 0) := by decide +kernel
theorem f_255_305 : zft 255 305 = some (1, .iload_n 3) := by decide +kernel
theorem f_255_306 : zft 255 306 = some (1, .iconst 2) := by decide +kernel
theorem f_255_307 : zft 255 307 = some (1, .iadd) := by decide +kernel
theorem f_255_308 : zft 255 308 = some (1, .iaload) := by decide +kernel
theorem f_255_309 : zft 255 309 = some (3, .invokevirtual 23) := by decide +kernel
theorem f_255_312 : zft 255 312 = some (1, .aload_n 2) := by decide +kernel
theorem f_255_313 : zft 255 313 = some (1, .aload_n 0) := by decide +kernel
theorem f_255_314 : zft 255 314 = some (1, .iload_n 3) := by decide +kernel
theorem f_255_315 : zft 255 315 = some (1, .iconst 1) := by decide +kernel
theorem f_255_316 : zft 255 316 = some (1, .iadd) := by decide +kernel
theorem f_255_317 : zft 255 317 = some (1, .iaload) := by decide +kernel
theorem f_255_318 : zft 255 318 = some (1, .aload_n 0) := by decide +kernel
theorem f_255_319 : zft 255 319 = some (1, .iload_n 3) := by decide +kernel
theorem f_255_320 : zft 255 320 = some (1, .iconst 2) := by decide +kernel
theorem f_255_321 : zft 255 321 = some (1, .iadd) := by decide +kernel
theorem f_255_322 : zft 255 322 = some (1, .iaload) := by decide +kernel
theorem f_255_323 : zft 255 323 = some (3, .invokevirtual 26) := by decide +kernel
theorem f_255_326 : zft 255 326 = some (3, .if_icmp .eq 840) := by decide +kernel
theorem f_255_329 : zft 255 329 = some (1, .iconst 0) := by decide +kernel
theorem f_255_330 : zft 255 330 = some (1, .ireturn) := by decide +kernel
theorem f_255_331 : zft 255 331 = some (1, .aload_n 1) := by decide +kernel
theorem f_255_332 : zft 255 332 = some (1, .aload_n 0) := by decide +kernel
theorem f_255_333 : zft 255 333 = some (1, .iload_n 3) := by decide +kernel
theorem f_255_334 : zft 255 334 = some (1, .iconst 1) := by decide +kernel
theorem f_255_335 : zft 255 335 = some (1, .iadd) := by decide +kernel
theorem f_255_336 : zft 255 336 = some (1, .iaload) := by decide +kernel
theorem f_255_337 : zft 255 337 = some (1, .aload_n 0) := by decide +kernel
theorem f_255_338 : zft 255 338 = some (1, .iload_n 3) := by decide +kernel
theorem f_255_339 : zft 255 339 = some (1, .iconst 2) := by decide +kernel
theorem f_255_340 : zft 255 340 = some (1, .iadd) := by decide +kernel
theorem f_255_341 : zft 255 341 = some (1, .iaload) := by decide +kernel
theorem f_255_342 : zft 255 342 = some (3, .invokevirtual 27) := by decide +kernel
theorem f_255_345 : zft 255 345 = some (1, .aload_n 2) := by decide +kernel
theorem f_255_346 : zft 255 346 = some (1, .aload_n 0) := by decide +kernel
theorem f_255_347 : zft 255 347 = some (1, .iload_n 3) := by decide +kernel
theorem f_255_348 : zft 255 348 = some (1, .iconst 1) := by decide +kernel
theorem f_255_349 : zft 255 349 = some (1, .iadd) := by decide +kernel
theorem f_255_350 : zft 255 350 = some (1, .iaload) := by decide +kernel
theorem f_255_351 : zft 255 351 = some (1, .aload_n 0) := by decide +kernel
theorem f_255_352 : zft 255 352 = some (1, .iload_n 3) := by decide +kernel
theorem f_255_353 : zft 255 353 = some (1, .iconst 2) := by decide +kernel
theorem f_255_354 : zft 255 354 = some (1, .iadd) := by decide +kernel
theorem f_255_355 : zft 255 355 = some (1, .iaload) := by decide +kernel
theorem f_255_356 : zft 255 356 = some (3, .invokevirtual 30) := by decide +kernel
theorem f_255_359 : zft 255 359 = some (3, .if_icmp .eq 807) := by decide +kernel
theorem f_255_362 : zft 255 362 = some (1, .iconst 0) := by decide +kernel
theorem f_255_363 : zft 255 363 = some (1, .ireturn) := by decide +kernel
theorem f_255_364 : zft 255 364 = some (1, .aload_n 1) := by decide +kernel
theorem f_255_365 : zft 255 365 = some (1, .aload_n 0) := by decide +kernel
theorem f_255_366 : zft 255 366 = some (1, .iload_n 3) := by decide +kernel
theorem f_255_367 : zft 255 367 = some (1, .iconst 1) := by decide +kernel
theorem f_255_368 : zft 255 368 = some (1, .iadd) := by decide +kernel
theorem f_255_369 : zft 255 369 = some (1, .iaload) := by decide +kernel
theorem f_255_370 : zft 255 370 = some (3, .invokevirtual 31) := by decide +kernel
theorem f_255_373 : zft 255 373 = some (1, .aload_n 2) := by decide +kernel
theorem f_255_374 : zft 255 374 = some (1, .aload_n 0) := by decide +kernel
theorem f_255_375 : zft 255 375 = some (1, .iload_n 3) := by decide +kernel
theorem f_255_376 : zft 255 376 = some (1, .iconst 1) := by decide +kernel
theorem f_255_377 : zft 255 377 = some (1, .iadd) := by decide +kernel
theorem f_255_378 : zft 255 378 = some (1, .iaload) := by decide +kernel
theorem f_255_379 : zft 255 379 = some (3, .invokevirtual 35) := by decide +kernel
theorem f_255_382 : zft 255 382 = some (3, .if_icmp .eq 784) := by decide +kernel
theorem f_255_385 : zft 255 385 = some (1, .iconst 0) := by decide +kernel
theorem f_255_386 : zft 255 386 = some (1, .ireturn) := by decide +kernel
theorem f_255_387 : zft 255 387 = some (1, .aload_n 1) := by decide +kernel
theorem f_255_388 : zft 255 388 = some (1, .aload_n 0) := by decide +kernel
theorem f_255_389 : zft 255 389 = some (1, .iload_n 3) := by decide +kernel
theorem f_255_390 : zft 255 390 = some (1, .iconst 1) := by decide +kernel
theorem f_255_391 : zft 255 391 = some (1, .iadd) := by decide +kernel
theorem f_255_392 : zft 255 392 = some (1, .iaload) := by decide +kernel
theorem f_255_393 : zft 255 393 = some (3, .invokevirtual 36) := by decide +kernel
theorem f_255_396 : zft 255 396 = some (1, .aload_n 2) := by decide +kernel
theorem f_255_397 : zft 255 397 = some (1, .aload_n 0) := by decide +kernel
theorem f_255_398 : zft 255 398 = some (1, .iload_n 3) := by decide +kernel
theorem f_255_399 : zft 255 399 = some (1, .iconst 1) := by decide +kernel
theorem f_255_400 : zft 255 400 = some (1, .iadd) := by decide +kernel
theorem f_255_401 : zft 255 401 = some (1, .iaload) := by decide +kernel
theorem f_255_402 : zft 255 402 = some (3, .invokevirtual 39) := by decide +kernel
theorem f_255_405 : zft 255 405 = some (3, .if_icmp .eq 761) := by decide +kernel
theorem f_255_408 : zft 255 408 = some (1, .iconst 0) := by decide +kernel
theorem f_255_409 : zft 255 409 = some (1, .ireturn) := by decide +kernel
theorem f_255_410 : zft 255 410 = some (1, .aload_n 1) := by decide +kernel
theorem f_255_411 : zft 255 411 = some (1, .aload_n 0) := by decide +kernel
theorem f_255_412 : zft 255 412 = some (1, .iload_n 3) := by decide +kernel
theorem f_255_413 : zft 255 413 = some (1, .iconst 1) := by decide +kernel
theorem f_255_414 : zft 255 414 = some (1, .iadd) := by decide +kernel
theorem f_255_415 : zft 255 415 = some (1, .iaload) := by decide +kernel
theorem f_255_416 : zft 255 416 = some (3, .invokevirtual 40) := by decide +kernel
theorem f_255_419 : zft 255 419 = some (1, .aload_n 2) := by decide +kernel
theorem f_255_420 : zft 255 420 = some (1, .aload_n 0) := by decide +kernel
theorem f_255_421 : zft 255 421 = some (1, .iload_n 3) := by decide +kernel
theorem f_255_422 : zft 255 422 = some (1, .iconst 1) := by decide +kernel
theorem f_255_423 : zft 255 423 = some (1, .iadd) := by decide +kernel
theorem f_255_424 : zft 255 424 = some (1, .iaload) := by decide +kernel
theorem f_255_425 : zft 255 425 = some (3, .invokevirtual 43) := by decide +kernel
theorem f_255_428 : zft 255 428 = some (3, .if_icmp .eq 738) := by decide +kernel
theorem f_255_431 : zft 255 431 = some (1, .iconst 0) := by decide +kernel
theorem f_255_432 : zft 255 432 = some (1, .ireturn) := by decide +kernel
theorem f_255_433 : zft 255 433 = some (1, .aload_n 1) := by decide +kernel
theorem f_255_434 : zft 255 434 = some (1, .aload_n 0) := by decide +kernel
theorem f_255_435 : zft 255 435 = some (1, .iload_n 3) := by decide +kernel
theorem f_255_436 : zft 255 436 = some (1, .iconst 1) := by decide +kernel
theorem f_255_437 : zft 255 437 = some (1, .iadd) := by decide +kernel
theorem f_255_438 : zft 255 438 = some (1, .iaload) := by decide +kernel
theorem f_255_439 : zft 255 439 = some (1, .aload_n 0) := by decide +kernel
theorem f_255_440 : zft 255 440 = some (1, .iload_n 3) := by decide +kernel
theorem f_255_441 : zft 255 441 = some (1, .iconst 2) := by decide +kernel
theorem f_255_442 : zft 255 442 = some (1, .iadd) := by decide +kernel
theorem f_255_443 : zft 255 443 = some (1, .iaload) := by decide +kernel
theorem f_255_444 : zft 255 444 = some (3, .invokevirtual 44) := by decide +kernel
theorem f_255_447 : zft 255 447 = some (1, .aload_n 2) := by decide +kernel
theorem f_255_448 : zft 255 448 = some (1, .aload_n 0) := by decide +kernel
theorem f_255_449 : zft 255 449 = some (1, .iload_n 3) := by decide +kernel
theorem f_255_450 : zft 255 450 = some (1, .iconst 1) := by decide +kernel
theorem f_255_451 : zft 255 451 = some (1, .iadd) := by decide +kernel
theorem f_255_452 : zft 255 452 = some (1, .iaload) := by decide +kernel
theorem f_255_453 : zft 255 453 = some (1, .aload_n 0) := by decide +kernel
theorem f_255_454 : zft 255 454 = some (1, .iload_n 3) := by decide +kernel
theorem f_255_455 : zft 255 455 = some (1, .iconst 2) := by decide +kernel
theorem f_255_456 : zft 255 456 = some (1, .iadd) := by decide +kernel
theorem f_255_457 : zft 255 457 = some (1, .iaload) := by decide +kernel
theorem f_255_458 : zft 255 458 = some (3, .invokevirtual 47) := by decide +kernel
theorem f_255_461 : zft 255 461 = some (3, .if_icmp .eq 705) := by decide +kernel
theorem f_255_464 : zft 255 464 = some (1, .iconst 0) := by decide +kernel
theorem f_255_465 : zft 255 465 = some (1, .ireturn) := by decide +kernel
theorem f_255_466 : zft 255 466 = some (1, .aload_n 1) := by decide +kernel
theorem f_255_467 : zft 255 467 = some (3, .invokevirtual 48) := by decide +kernel
theorem f_255_470 : zft 255 470 = some (1, .aload_n 2) := by decide +kernel
theorem f_255_471 : zft 255 471 = some (3, .invokevirtual 52) := by decide +kernel
theorem f_255_474 : zft 255 474 = some (3, .if_icmp .eq 692) := by decide +kernel
theorem f_255_477 : zft 255 477 = some (1, .iconst 0) := by decide +kernel
theorem f_255_478 : zft 255 478 = some (1, .ireturn) := by decide +kernel
theorem f_255_479 : zft 255 479 = some (1, .aload_n 1) := by decide +kernel
theorem f_255_480 : zft 255 480 = some (3, .invokevirtual 53) := by decide +kernel
theorem f_255_483 : zft 255 483 = some (1, .aload_n 2) := by decide +kernel
theorem f_255_484 : zft 255 484 = some (3, .invokevirtual 56) := by decide +kernel
theorem f_255_487 : zft 255 487 = some (3, .if_icmp .eq 679) := by decide +kernel
theorem f_255_490 : zft 255 490 = some (1, .iconst 0) := by decide +kernel
theorem f_255_491 : zft 255 491 = some (1, .ireturn) := by decide +kernel
theorem f_255_492 : zft 255 492 = some (1, .aload_n 1) := by decide +kernel
theorem f_255_493 : zft 255 493 = some (1, .aload_n 0) := by decide +kernel
theorem f_255_494 : zft 255 494 = some (1, .iload_n 3) := by decide +kernel
theorem f_255_495 : zft 255 495 = some (1, .iconst 1) := by decide +kernel
theorem f_255_496 : zft 255 496 = some (1, .iadd) := by decide +kernel
theorem f_255_497 : zft 255 497 = some (1, .iaload) := by decide +kernel
theorem f_255_498 : zft 255 498 = some (3, .invokevirtual 57) := by decide +kernel
theorem f_255_501 : zft 255 501 = some (1, .aload_n 2) := by decide +kernel
theorem f_255_502 : zft 255 502 = some (1, .aload_n 0) := by decide +kernel
theorem f_255_503 : zft 255 503 = some (1, .iload_n 3) := by decide +kernel
theorem f_255_504 : zft 255 504 = some (1, .iconst 1) := by decide +kernel
theorem f_255_505 : zft 255 505 = some (1, .iadd) := by decide +kernel
theorem f_255_506 : zft 255 506 = some (1, .iaload) := by decide +kernel
theorem f_255_507 : zft 255 507 = some (3, .invokevirtual 60) := by decide +kernel
theorem f_255_510 : zft 255 510 = some (3, .if_icmp .eq 656) := by decide +kernel
theorem f_255_513 : zft 255 513 = some (1, .iconst 0) := by decide +kernel
theorem f_255_514 : zft 255 514 = some (1, .ireturn) := by decide +kernel
theorem f_255_515 : zft 255 515 = some (1, .aload_n 1) := by decide +kernel
theorem f_255_516 : zft 255 516 = some (1, .aload_n 0) := by decide +kernel
theorem f_255_517 : zft 255 517 = some (1, .iload_n 3) := by decide +kernel
theorem f_255_518 : zft 255 518 = some (1, .iconst 1) := by decide +kernel
theorem f_255_519 : zft 255 519 = some (1, .iadd) := by decide +kernel
theorem f_255_520 : zft 255 520 = some (1, .iaload) := by decide +kernel
theorem f_255_521 : zft 255 521 = some (3, .invokevirtual 61) := by decide +kernel
theorem f_255_524 : zft 255 524 = some (1, .aload_n 2) := by decide +kernel
theorem f_255_525 : zft 255 525 = some (1, .aload_n 0) := by decide +kernel
theorem f_255_526 : zft 255 526 = some (1, .iload_n 3) := by decide +kernel
theorem f_255_527 : zft 255 527 = some (1, .iconst 1) := by decide +kernel
theorem f_255_528 : zft 255 528 = some (1, .iadd) := by decide +kernel
theorem f_255_529 : zft 255 529 = some (1, .iaload) := by decide +kernel
theorem f_255_530 : zft 255 530 = some (3, .invokevirtual 64) := by decide +kernel
theorem f_255_533 : zft 255 533 = some (3, .if_icmp .eq 633) := by decide +kernel
theorem f_255_536 : zft 255 536 = some (1, .iconst 0) := by decide +kernel
theorem f_255_537 : zft 255 537 = some (1, .ireturn) := by decide +kernel
theorem f_255_538 : zft 255 538 = some (1, .aload_n 1) := by decide +kernel
theorem f_255_539 : zft 255 539 = some (3, .invokevirtual 65) := by decide +kernel
theorem f_255_542 : zft 255 542 = some (1, .aload_n 2) := by decide +kernel
theorem f_255_543 : zft 255 543 = some (3, .invokevirtual 68) := by decide +kernel
theorem f_255_546 : zft 255 546 = some (3, .if_icmp .eq 620) := by decide +kernel
theorem f_255_549 : zft 255 549 = some (1, .iconst 0) := by decide +kernel
theorem f_255_550 : zft 255 550 = some (1, .ireturn) := by decide +kernel
theorem f_255_551 : zft 255 551 = some (1, .aload_n 1) := by decide +kernel
theorem f_255_552 : zft 255 552 = some (3, .invokevirtual 69) := by decide +kernel
theorem f_255_555 : zft 255 555 = some (1, .aload_n 2) := by decide +kernel
theorem f_255_556 : zft 255 556 = some (3, .invokevirtual 72) := by decide +kernel
theorem f_255_559 : zft 255 559 = some (3, .if_icmp .eq 607) := by decide +kernel
theorem f_255_562 : zft 255 562 = some (1, .iconst 0) := by decide +kernel
theorem f_255_563 : zft 255 563 = some (1, .ireturn) := by decide +kernel
theorem f_255_564 : zft 255 564 = some (1, .aload_n 1) := by decide +kernel
theorem f_255_565 : zft 255 565 = some (3, .invokevirtual 73) := by decide +kernel
theorem f_255_568 : zft 255 568 = some (1, .aload_n 2) := by decide +kernel
theorem f_255_569 : zft 255 569 = some (3, .invokevirtual 76) := by decide +kernel
theorem f_255_572 : zft 255 572 = some (3, .if_icmp .eq 594) := by decide +kernel
theorem f_255_575 : zft 255 575 = some (1, .iconst 0) := by decide +kernel
theorem f_255_576 : zft 255 576 = some (1, .ireturn) := by decide +kernel
theorem f_255_577 : zft 255 577 = some (1, .aload_n 1) := by decide +kernel
theorem f_255_578 : zft 255 578 = some (1, .aload_n 0) := by decide +kernel
theorem f_255_579 : zft 255 579 = some (1, .iload_n 3) := by decide +kernel
theorem f_255_580 : zft 255 580 = some (1, .iconst 1) := by decide +kernel
theorem f_255_581 : zft 255 581 = some (1, .iadd) := by decide +kernel
theorem f_255_582 : zft 255 582 = some (1, .iaload) := by decide +kernel
theorem f_255_583 : zft 255 583 = some (3, .invokevirtual 77) := by decide +kernel
theorem f_255_586 : zft 255 586 = some (1, .aload_n 2) := by decide +kernel
theorem f_255_587 : zft 255 587 = some (1, .aload_n 0) := by decide +kernel
theorem f_255_588 : zft 255 588 = some (1, .iload_n 3) := by decide +kernel
theorem f_255_589 : zft 255 589 = some (1, .iconst 1) := by decide +kernel
theorem f_255_590 : zft 255 590 = some (1, .iadd) := by decide +kernel
theorem f_255_591 : zft 255 591 = some (1, .iaload) := by decide +kernel
theorem f_255_592 : zft 255 592 = some (3, .invokevirtual 80) := by decide +kernel
theorem f_255_595 : zft 255 595 = some (3, .if_icmp .eq 571) := by decide +kernel
theorem f_255_598 : zft 255 598 = some (1, .iconst 0) := by decide +kernel
theorem f_255_599 : zft 255 599 = some (1, .ireturn) := by decide +kernel
theorem f_255_600 : zft 255 600 = some (1, .aload_n 1) := by decide +kernel
theorem f_255_601 : zft 255 601 = some (1, .aload_n 0) := by decide +kernel
theorem f_255_602 : zft 255 602 = some (1, .iload_n 3) := by decide +kernel
theorem f_255_603 : zft 255 603 = some (1, .iconst 1) := by decide +kernel
theorem f_255_604 : zft 255 604 = some (1, .iadd) := by decide +kernel
theorem f_255_605 : zft 255 605 = some (1, .iaload) := by decide +kernel
theorem f_255_606 : zft 255 606 = some (1, .aload_n 0) := by decide +kernel
theorem f_255_607 : zft 255 607 = some (1, .iload_n 3) := by decide +kernel
theorem f_255_608 : zft 255 608 = some (1, .iconst 2) := by decide +kernel
theorem f_255_609 : zft 255 609 = some (1, .iadd) := by decide +kernel
theorem f_255_610 : zft 255 610 = some (1, .iaload) := by decide +kernel
theorem f_255_611 : zft 255 611 = some (3, .invokevirtual 81) := by decide +kernel
theorem f_255_614 : zft 255 614 = some (1, .aload_n 2) := by decide +kernel
theorem f_255_615 : zft 255 615 = some (1, .aload_n 0) := by decide +kernel
theorem f_255_616 : zft 255 616 = some (1, .iload_n 3) := by decide +kernel
theorem f_255_617 : zft 255 617 = some (1, .iconst 1) := by decide +kernel
theorem f_255_618 : zft 255 618 = some (1, .iadd) := by decide +kernel
theorem f_255_619 : zft 255 619 = some (1, .iaload) := by decide +kernel
theorem f_255_620 : zft 255 620 = some (1, .aload_n 0) := by decide +kernel
theorem f_255_621 : zft 255 621 = some (1, .iload_n 3) := by decide +kernel
theorem f_255_622 : zft 255 622 = some (1, .iconst 2) := by decide +kernel
theorem f_255_623 : zft 255 623 = some (1, .iadd) := by decide +kernel
theorem f_255_624 : zft 255 624 = some (1, .iaload) := by decide +kernel
theorem f_255_625 : zft 255 625 = some (3, .invokevirtual 84) := by decide +kernel
theorem f_255_628 : zft 255 628 = some (3, .if_icmp .eq 538) := by decide +kernel
theorem f_255_631 : zft 255 631 = some (1, .iconst 0) := by decide +kernel
theorem f_255_632 : zft 255 632 = some (1, .ireturn) := by decide +kernel
theorem f_255_633 : zft 255 633 = some (1, .aload_n 1) := by decide +kernel
theorem f_255_634 : zft 255 634 = some (1, .aload_n 0) := by decide +kernel
theorem f_255_635 : zft 255 635 = some (1, .iload_n 3) := by decide +kernel
theorem f_255_636 : zft 255 636 = some (1, .iconst 1) := by decide +kernel
theorem f_255_637 : zft 255 637 = some (1, .iadd) := by decide +kernel
theorem f_255_638 : zft 255 638 = some (1, .iaload) := by decide +kernel
theorem f_255_639 : zft 255 639 = some (1, .aload_n 0) := by decide +kernel
theorem f_255_640 : zft 255 640 = some (1, .iload_n 3) := by decide +kernel
theorem f_255_641 : zft 255 641 = some (1, .iconst 2) := by decide +kernel
theorem f_255_642 : zft 255 642 = some (1, .iadd) := by decide +kernel
theorem f_255_643 : zft 255 643 = some (1, .iaload) := by decide +kernel
theorem f_255_644 : zft 255 644 = some (3, .invokevirtual 85) := by decide +kernel
theorem f_255_647 : zft 255 647 = some (1, .aload_n 2) := by decide +kernel
theorem f_255_648 : zft 255 648 = some (1, .aload_n 0) := by decide +kernel
theorem f_255_649 : zft 255 649 = some (1, .iload_n 3) := by decide +kernel
theorem f_255_650 : zft 255 650 = some (1, .iconst 1) := by decide +kernel
theorem f_255_651 : zft 255 651 = some (1, .iadd) := by decide +kernel
theorem f_255_652 : zft 255 652 = some (1, .iaload) := by decide +kernel
theorem f_255_653 : zft 255 653 = some (1, .aload_n 0) := by decide +kernel
theorem f_255_654 : zft 255 654 = some (1, .iload_n 3) := by decide +kernel
theorem f_255_655 : zft 255 655 = some (1, .iconst 2) := by decide +kernel
theorem f_255_656 : zft 255 656 = some (1, .iadd) := by decide +kernel
theorem f_255_657 : zft 255 657 = some (1, .iaload) := by decide +kernel
theorem f_255_658 : zft 255 658 = some (3, .invokevirtual 88) := by decide +kernel
theorem f_255_661 : zft 255 661 = some (3, .if_icmp .eq 505) := by decide +kernel
theorem f_255_664 : zft 255 664 = some (1, .iconst 0) := by decide +kernel
theorem f_255_665 : zft 255 665 = some (1, .ireturn) := by decide +kernel
theorem f_255_666 : zft 255 666 = some (1, .aload_n 1) := by decide +kernel
theorem f_255_667 : zft 255 667 = some (1, .aload_n 0) := by decide +kernel
theorem f_255_668 : zft 255 668 = some (1, .iload_n 3) := by decide +kernel
theorem f_255_669 : zft 255 669 = some (1, .iconst 1) := by decide +kernel
theorem f_255_670 : zft 255 670 = some (1, .iadd) := by decide +kernel
theorem f_255_671 : zft 255 671 = some (1, .iaload) := by decide +kernel
theorem f_255_672 : zft 255 672 = some (1, .aload_n 0) := by decide +kernel
theorem f_255_673 : zft 255 673 = some (1, .iload_n 3) := by decide +kernel
theorem f_255_674 : zft 255 674 = some (1, .iconst 2) := by decide +kernel
theorem f_255_675 : zft 255 675 = some (1, .iadd) := by decide +kernel
theorem f_255_676 : zft 255 676 = some (1, .iaload) := by decide +kernel
theorem f_255_677 : zft 255 677 = some (3, .invokevirtual 89) := by decide +kernel
theorem f_255_680 : zft 255 680 = some (1, .aload_n 2) := by decide +kernel
theorem f_255_681 : zft 255 681 = some (1, .aload_n 0) := by decide +kernel
theorem f_255_682 : zft 255 682 = some (1, .iload_n 3) := by decide +kernel
theorem f_255_683 : zft 255 683 = some (1, .iconst 1) := by decide +kernel
theorem f_255_684 : zft 255 684 = some (1, .iadd) := by decide +kernel
theorem f_255_685 : zft 255 685 = some (1, .iaload) := by decide +kernel
theorem f_255_686 : zft 255 686 = some (1, .aload_n 0) := by decide +kernel
theorem f_255_687 : zft 255 687 = some (1, .iload_n 3) := by decide +kernel
theorem f_255_688 : zft 255 688 = some (1, .iconst 2) := by decide +kernel
theorem f_255_689 : zft 255 689 = some (1, .iadd) := by decide +kernel
theorem f_255_690 : zft 255 690 = some (1, .iaload) := by decide +kernel
theorem f_255_691 : zft 255 691 = some (3, .invokevirtual 92) := by decide +kernel
theorem f_255_694 : zft 255 694 = some (3, .if_icmp .eq 472) := by decide +kernel
theorem f_255_697 : zft 255 697 = some (1, .iconst 0) := by decide +kernel
theorem f_255_698 : zft 255 698 = some (1, .ireturn) := by decide +kernel
theorem f_255_699 : zft 255 699 = some (1, .aload_n 1) := by decide +kernel
theorem f_255_700 : zft 255 700 = some (3, .invokevirtual 93) := by decide +kernel
theorem f_255_703 : zft 255 703 = some (1, .aload_n 2) := by decide +kernel
theorem f_255_704 : zft 255 704 = some (3, .invokevirtual 96) := by decide +kernel
theorem f_255_707 : zft 255 707 = some (3, .if_icmp .eq 459) := by decide +kernel
theorem f_255_710 : zft 255 710 = some (1, .iconst 0) := by decide +kernel
theorem f_255_711 : zft 255 711 = some (1, .ireturn) := by decide +kernel
theorem f_255_712 : zft 255 712 = some (1, .aload_n 1) := by decide +kernel
theorem f_255_713 : zft 255 713 = some (1, .aload_n 0) := by decide +kernel
theorem f_255_714 : zft 255 714 = some (1, .iload_n 3) := by decide +kernel
theorem f_255_715 : zft 255 715 = some (1, .iconst 1) := by decide +kernel
theorem f_255_716 : zft 255 716 = some (1, .iadd) := by decide +kernel
theorem f_255_717 : zft 255 717 = some (1, .iaload) := by decide +kernel
theorem f_255_718 : zft 255 718 = some (1, .aload_n 0) := by decide +kernel
theorem f_255_719 : zft 255 719 = some (1, .iload_n 3) := by decide +kernel
theorem f_255_720 : zft 255 720 = some (1, .iconst 2) := by decide +kernel
theorem f_255_721 : zft 255 721 = some (1, .iadd) := by decide +kernel
theorem f_255_722 : zft 255 722 = some (1, .iaload) := by decide +kernel
theorem f_255_723 : zft 255 723 = some (3, .invokevirtual 97) := by decide +kernel
theorem f_255_726 : zft 255 726 = some (1, .aload_n 2) := by decide +kernel
theorem f_255_727 : zft 255 727 = some (1, .aload_n 0) := by decide +kernel
theorem f_255_728 : zft 255 728 = some (1, .iload_n 3) := by decide +kernel
theorem f_255_729 : zft 255 729 = some (1, .iconst 1) := by decide +kernel
theorem f_255_730 : zft 255 730 = some (1, .iadd) := by decide +kernel
theorem f_255_731 : zft 255 731 = some (1, .iaload) := by decide +kernel
theorem f_255_732 : zft 255 732 = some (1, .aload_n 0) := by decide +kernel
theorem f_255_733 : zft 255 733 = some (1, .iload_n 3) := by decide +kernel
theorem f_255_734 : zft 255 734 = some (1, .iconst 2) := by decide +kernel
theorem f_255_735 : zft 255 735 = some (1, .iadd) := by decide +kernel
theorem f_255_736 : zft 255 736 = some (1, .iaload) := by decide +kernel
theorem f_255_737 : zft 255 737 = some (3, .invokevirtual 100) := by decide +kernel
theorem f_255_740 : zft 255 740 = some (3, .if_icmp .eq 426) := by decide +kernel
theorem f_255_743 : zft 255 743 = some (1, .iconst 0) := by decide +kernel
theorem f_255_744 : zft 255 744 = some (1, .ireturn) := by decide +kernel
theorem f_255_745 : zft 255 745 = some (1, .aload_n 1) := by decide +kernel
theorem f_255_746 : zft 255 746 = some (1, .aload_n 0) := by decide +kernel
theorem f_255_747 : zft 255 747 = some (1, .iload_n 3) := by decide +kernel
theorem f_255_748 : zft 255 748 = some (1, .iconst 1) := by decide +kernel
theorem f_255_749 : zft 255 749 = some (1, .iadd) := by decide +kernel
theorem f_255_750 : zft 255 750 = some (1, .iaload) := by decide +kernel
theorem f_255_751 : zft 255 751 = some (1, .aload_n 0) := by decide +kernel
theorem f_255_752 : zft 255 752 = some (1, .iload_n 3) := by decide +kernel
theorem f_255_753 : zft 255 753 = some (1, .iconst 2) := by decide +kernel
theorem f_255_754 : zft 255 754 = some (1, .iadd) := by decide +kernel
theorem f_255_755 : zft 255 755 = some (1, .iaload) := by decide +kernel
theorem f_255_756 : zft 255 756 = some (3, .invokevirtual 101) := by decide +kernel
theorem f_255_759 : zft 255 759 = some (1, .aload_n 2) := by decide +kernel
theorem f_255_760 : zft 255 760 = some (1, .aload_n 0) := by decide +kernel
theorem f_255_761 : zft 255 761 = some (1, .iload_n 3) := by decide +kernel
theorem f_255_762 : zft 255 762 = some (1, .iconst 1) := by decide +kernel
theorem f_255_763 : zft 255 763 = some (1, .iadd) := by decide +kernel
theorem f_255_764 : zft 255 764 = some (1, .iaload) := by decide +kernel
theorem f_255_765 : zft 255 765 = some (1, .aload_n 0) := by decide +kernel
theorem f_255_766 : zft 255 766 = some (1, .iload_n 3) := by decide +kernel
theorem f_255_767 : zft 255 767 = some (1, .iconst 2) := by decide +kernel
theorem f_255_768 : zft 255 768 = some (1, .iadd) := by decide +kernel
theorem f_255_769 : zft 255 769 = some (1, .iaload) := by decide +kernel
theorem f_255_770 : zft 255 770 = some (3, .invokevirtual 104) := by decide +kernel
theorem f_255_773 : zft 255 773 = some (3, .if_icmp .eq 393) := by decide +kernel
theorem f_255_776 : zft 255 776 = some (1, .iconst 0) := by decide +kernel
theorem f_255_777 : zft 255 777 = some (1, .ireturn) := by decide +kernel
theorem f_255_778 : zft 255 778 = some (1, .aload_n 1) := by decide +kernel
theorem f_255_779 : zft 255 779 = some (1, .aload_n 0) := by decide +kernel
theorem f_255_780 : zft 255 780 = some (1, .iload_n 3) := by decide +kernel
theorem f_255_781 : zft 255 781 = some (1, .iconst 1) := by decide +kernel
theorem f_255_782 : zft 255 782 = some (1, .iadd) := by decide +kernel
theorem f_255_783 : zft 255 783 = some (1, .iaload) := by decide +kernel
theorem f_255_784 : zft 255 784 = some (1, .aload_n 0) := by decide +kernel
theorem f_255_785 : zft 255 785 = some (1, .iload_n 3) := by decide +kernel
theorem f_255_786 : zft 255 786 = some (1, .iconst 2) := by decide +kernel
theorem f_255_787 : zft 255 787 = some (1, .iadd) := by decide +kernel
theorem f_255_788 : zft 255 788 = some (1, .iaload) := by decide +kernel
theorem f_255_789 : zft 255 789 = some (1, .aload_n 0) := by decide +kernel
theorem f_255_790 : zft 255 790 = some (1, .iload_n 3) := by decide +kernel
theorem f_255_791 : zft 255 791 = some (1, .iconst 3) := by decide +kernel
theorem f_255_792 : zft 255 792 = some (1, .iadd) := by decide +kernel
theorem f_255_793 : zft 255 793 = some (1, .iaload) := by decide +kernel
theorem f_255_794 : zft 255 794 = some (1, .aload_n 0) := by decide +kernel
theorem f_255_795 : zft 255 795 = some (1, .iload_n 3) := by decide +kernel
theorem f_255_796 : zft 255 796 = some (1, .iconst 4) := by decide +kernel
theorem f_255_797 : zft 255 797 = some (1, .iadd) := by decide +kernel
theorem f_255_798 : zft 255 798 = some (1, .iaload) := by decide +kernel
theorem f_255_799 : zft 255 799 = some (3, .invokevirtual 105) := by decide +kernel
theorem f_255_802 : zft 255 802 = some (1, .aload_n 2) := by decide +kernel
theorem f_255_803 : zft 255 803 = some (1, .aload_n 0) := by decide +kernel
theorem f_255_804 : zft 255 804 = some (1, .iload_n 3) := by decide +kernel
theorem f_255_805 : zft 255 805 = some (1, .iconst 1) := by decide +kernel
theorem f_255_806 : zft 255 806 = some (1, .iadd) := by decide +kernel
theorem f_255_807 : zft 255 807 = some (1, .iaload) := by decide +kernel
theorem f_255_808 : zft 255 808 = some (1, .aload_n 0) := by decide +kernel
theorem f_255_809 : zft 255 809 = some (1, .iload_n 3) := by decide +kernel
theorem f_255_810 : zft 255 810 = some (1, .iconst 2) := by decide +kernel
theorem f_255_811 : zft 255 811 = some (1, .iadd) := by decide +kernel
theorem f_255_812 : zft 255 812 = some (1, .iaload) := by decide +kernel
theorem f_255_813 : zft 255 813 = some (1, .aload_n 0) := by decide +kernel
theorem f_255_814 : zft 255 814 = some (1, .iload_n 3) := by decide +kernel
theorem f_255_815 : zft 255 815 = some (1, .iconst 3) := by decide +kernel
theorem f_255_816 : zft 255 816 = some (1, .iadd) := by decide +kernel
theorem f_255_817 : zft 255 817 = some (1, .iaload) := by decide +kernel
theorem f_255_818 : zft 255 818 = some (1, .aload_n 0) := by decide +kernel
theorem f_255_819 : zft 255 819 = some (1, .iload_n 3) := by decide +kernel
theorem f_255_820 : zft 255 820 = some (1, .iconst 4) := by decide +kernel
theorem f_255_821 : zft 255 821 = some (1, .iadd) := by decide +kernel
theorem f_255_822 : zft 255 822 = some (1, .iaload) := by decide +kernel
theorem f_255_823 : zft 255 823 = some (3, .invokevirtual 108) := by decide +kernel
theorem f_255_826 : zft 255 826 = some (3, .if_icmp .eq 340) := by decide +kernel
theorem f_255_829 : zft 255 829 = some (1, .iconst 0) := by decide +kernel
theorem f_255_830 : zft 255 830 = some (1, .ireturn) := by decide +kernel
theorem f_255_831 : zft 255 831 = some (1, .aload_n 1) := by decide +kernel
theorem f_255_832 : zft 255 832 = some (1, .aload_n 0) := by decide +kernel
theorem f_255_833 : zft 255 833 = some (1, .iload_n 3) := by decide +kernel
theorem f_255_834 : zft 255 834 = some (1, .iconst 1) := by decide +kernel
theorem f_255_835 : zft 255 835 = some (1, .iadd) := by decide +kernel
theorem f_255_836 : zft 255 836 = some (1, .iaload) := by decide +kernel
theorem f_255_837 : zft 255 837 = some (3, .invokevirtual 109) := by decide +kernel
theorem f_255_840 : zft 255 840 = some (1, .aload_n 2) := by decide +kernel
theorem f_255_841 : zft 255 841 = some (1, .aload_n 0) := by decide +kernel
theorem f_255_842 : zft 255 842 = some (1, .iload_n 3) := by decide +kernel
theorem f_255_843 : zft 255 843 = some (1, .iconst 1) := by decide +kernel
theorem f_255_844 : zft 255 844 = some (1, .iadd) := by decide +kernel
theorem f_255_845 : zft 255 845 = some (1, .iaload) := by decide +kernel
theorem f_255_846 : zft 255 846 = some (3, .invokevirtual 112) := by decide +kernel
theorem f_255_849 : zft 255 849 = some (3, .if_icmp .eq 317) := by decide +kernel
theorem f_255_852 : zft 255 852 = some (1, .iconst 0) := by decide +kernel
theorem f_255_853 : zft 255 853 = some (1, .ireturn) := by decide +kernel
theorem f_255_854 : zft 255 854 = some (1, .aload_n 1) := by decide +kernel
theorem f_255_855 : zft 255 855 = some (1, .aload_n 0) := by decide +kernel
theorem f_255_856 : zft 255 856 = some (1, .iload_n 3) := by decide +kernel
theorem f_255_857 : zft 255 857 = some (1, .iconst 1) := by decide +kernel
theorem f_255_858 : zft 255 858 = some (1, .iadd) := by decide +kernel
theorem f_255_859 : zft 255 859 = some (1, .iaload) := by decide +kernel
theorem f_255_860 : zft 255 860 = some (3, .invokevirtual 113) := by decide +kernel
theorem f_255_863 : zft 255 863 = some (1, .aload_n 2) := by decide +kernel
theorem f_255_864 : zft 255 864 = some (1, .aload_n 0) := by decide +kernel
theorem f_255_865 : zft 255 865 = some (1, .iload_n 3) := by decide +kernel
theorem f_255_866 : zft 255 866 = some (1, .iconst 1) := by decide +kernel
theorem f_255_867 : zft 255 867 = some (1, .iadd) := by decide +kernel
theorem f_255_868 : zft 255 868 = some (1, .iaload) := by decide +kernel
theorem f_255_869 : zft 255 869 = some (3, .invokevirtual 116) := by decide +kernel
theorem f_255_872 : zft 255 872 = some (3, .if_icmp .eq 294) := by decide +kernel
theorem f_255_875 : zft 255 875 = some (1, .iconst 0) := by decide +kernel
theorem f_255_876 : zft 255 876 = some (1, .ireturn) := by decide +kernel
theorem f_255_877 : zft 255 877 = some (1, .aload_n 1) := by decide +kernel
theorem f_255_878 : zft 255 878 = some (3, .invokevirtual 117) := by decide +kernel
theorem f_255_881 : zft 255 881 = some (1, .aload_n 2) := by decide +kernel
theorem f_255_882 : zft 255 882 = some (3, .invokevirtual 120) := by decide +kernel
theorem f_255_885 : zft 255 885 = some (3, .if_icmp .eq 281) := by decide +kernel
theorem f_255_888 : zft 255 888 = some (1, .iconst 0) := by decide +kernel
theorem f_255_889 : zft 255 889 = some (1, .ireturn) := by decide +kernel
theorem f_255_890 : zft 255 890 = some (1, .aload_n 1) := by decide +kernel
theorem f_255_891 : zft 255 891 = some (1, .aload_n 0) := by decide +kernel
theorem f_255_892 : zft 255 892 = some (1, .iload_n 3) := by decide +kernel
theorem f_255_893 : zft 255 893 = some (1, .iconst 1) := by decide +kernel
theorem f_255_894 : zft 255 894 = some (1, .iadd) := by decide +kernel
theorem f_255_895 : zft 255 895 = some (1, .iaload) := by decide +kernel
theorem f_255_896 : zft 255 896 = some (3, .invokevirtual 121) := by decide +kernel
theorem f_255_899 : zft 255 899 = some (1, .aload_n 2) := by decide +kernel
theorem f_255_900 : zft 255 900 = some (1, .aload_n 0) := by decide +kernel
theorem f_255_901 : zft 255 901 = some (1, .iload_n 3) := by decide +kernel
theorem f_255_902 : zft 255 902 = some (1, .iconst 1) := by decide +kernel
theorem f_255_903 : zft 255 903 = some (1, .iadd) := by decide +kernel
theorem f_255_904 : zft 255 904 = some (1, .iaload) := by decide +kernel
theorem f_255_905 : zft 255 905 = some (3, .invokevirtual 124) := by decide +kernel
theorem f_255_908 : zft 255 908 = some (3, .if_icmp .eq 258) := by decide +kernel
theorem f_255_911 : zft 255 911 = some (1, .iconst 0) := by decide +kernel
theorem f_255_912 : zft 255 912 = some (1, .ireturn) := by decide +kernel
theorem f_255_913 : zft 255 913 = some (1, .aload_n 1) := by decide +kernel
theorem f_255_914 : zft 255 914 = some (1, .aload_n 0) := by decide +kernel
theorem f_255_915 : zft 255 915 = some (1, .iload_n 3) := by decide +kernel
theorem f_255_916 : zft 255 916 = some (1, .iconst 1) := by decide +kernel
theorem f_255_917 : zft 255 917 = some (1, .iadd) := by decide +kernel
theorem f_255_918 : zft 255 918 = some (1, .iaload) := by decide +kernel
theorem f_255_919 : zft 255 919 = some (3, .invokevirtual 125) := by decide +kernel
theorem f_255_922 : zft 255 922 = some (1, .aload_n 2) := by decide +kernel
theorem f_255_923 : zft 255 923 = some (1, .aload_n 0) := by decide +kernel
theorem f_255_924 : zft 255 924 = some (1, .iload_n 3) := by decide +kernel
theorem f_255_925 : zft 255 925 = some (1, .iconst 1) := by decide +kernel
theorem f_255_926 : zft 255 926 = some (1, .iadd) := by decide +kernel
theorem f_255_927 : zft 255 927 = some (1, .iaload) := by decide +kernel
theorem f_255_928 : zft 255 928 = some (3, .invokevirtual 128) := by decide +kernel
theorem f_255_931 : zft 255 931 = some (3, .if_icmp .eq 235) := by decide +kernel
theorem f_255_934 : zft 255 934 = some (1, .iconst 0) := by decide +kernel
theorem f_255_935 : zft 255 935 = some (1, .ireturn) := by decide +kernel
theorem f_255_936 : zft 255 936 = some (1, .aload_n 1) := by decide +kernel
theorem f_255_937 : zft 255 937 = some (3, .invokevirtual 129) := by decide +kernel
theorem f_255_940 : zft 255 940 = some (1, .aload_n 2) := by decide +kernel
theorem f_255_941 : zft 255 941 = some (3, .invokevirtual 132) := by decide +kernel
theorem f_255_944 : zft 255 944 = some (3, .if_icmp .eq 222) := by decide +kernel
theorem f_255_947 : zft 255 947 = some (1, .iconst 0) := by decide +kernel
theorem f_255_948 : zft 255 948 = some (1, .ireturn) := by decide +kernel
theorem f_255_949 : zft 255 949 = some (1, .aload_n 1) := by decide +kernel
theorem f_255_950 : zft 255 950 = some (3, .invokevirtual 133) := by decide +kernel
theorem f_255_953 : zft 255 953 = some (1, .aload_n 2) := by decide +kernel
theorem f_255_954 : zft 255 954 = some (3, .invokevirtual 136) := by decide +kernel
theorem f_255_957 : zft 255 957 = some (3, .if_icmp .eq 209) := by decide +kernel
theorem f_255_960 : zft 255 960 = some (1, .iconst 0) := by decide +kernel
theorem f_255_961 : zft 255 961 = some (1, .ireturn) := by decide +kernel
theorem f_255_962 : zft 255 962 = some (1, .aload_n 1) := by decide +kernel
theorem f_255_963 : zft 255 963 = some (1, .aload_n 0) := by decide +kernel
theorem f_255_964 : zft 255 964 = some (1, .iload_n 3) := by decide +kernel
theorem f_255_965 : zft 255 965 = some (1, .iconst 1) := by decide +kernel
theorem f_255_966 : zft 255 966 = some (1, .iadd) := by decide +kernel
theorem f_255_967 : zft 255 967 = some (1, .iaload) := by decide +kernel
theorem f_255_968 : zft 255 968 = some (3, .invokevirtual 137) := by decide +kernel
theorem f_255_971 : zft 255 971 = some (1, .aload_n 2) := by decide +kernel
theorem f_255_972 : zft 255 972 = some (1, .aload_n 0) := by decide +kernel
theorem f_255_973 : zft 255 973 = some (1, .iload_n 3) := by decide +kernel
theorem f_255_974 : zft 255 974 = some (1, .iconst 1) := by decide +kernel
theorem f_255_975 : zft 255 975 = some (1, .iadd) := by decide +kernel
theorem f_255_976 : zft 255 976 = some (1, .iaload) := by decide +kernel
theorem f_255_977 : zft 255 977 = some (3, .invokevirtual 140) := by decide +kernel
theorem f_255_980 : zft 255 980 = some (3, .if_icmp .eq 186) := by decide +kernel
theorem f_255_983 : zft 255 983 = some (1, .iconst 0) := by decide +kernel
theorem f_255_984 : zft 255 984 = some (1, .ireturn) := by decide +kernel
theorem f_255_985 : zft 255 985 = some (1, .aload_n 1) := by decide +kernel
theorem f_255_986 : zft 255 986 = some (1, .aload_n 0) := by decide +kernel
theorem f_255_987 : zft 255 987 = some (1, .iload_n 3) := by decide +kernel
theorem f_255_988 : zft 255 988 = some (1, .iconst 1) := by decide +kernel
theorem f_255_989 : zft 255 989 = some (1, .iadd) := by decide +kernel
theorem f_255_990 : zft 255 990 = some (1, .iaload) := by decide +kernel
theorem f_255_991 : zft 255 991 = some (3, .invokevirtual 141) := by decide +kernel
theorem f_255_994 : zft 255 994 = some (1, .aload_n 2) := by decide +kernel
theorem f_255_995 : zft 255 995 = some (1, .aload_n 0) := by decide +kernel
theorem f_255_996 : zft 255 996 = some (1, .iload_n 3) := by decide +kernel
theorem f_255_997 : zft 255 997 = some (1, .iconst 1) := by decide +kernel
theorem f_255_998 : zft 255 998 = some (1, .iadd) := by decide +kernel
theorem f_255_999 : zft 255 999 = some (1, .iaload) := by decide +kernel
theorem f_255_1000 : zft 255 1000 = some (3, .invokevirtual 144) := by decide +kernel
theorem f_255_1003 : zft 255 1003 = some (3, .if_icmp .eq 163) := by decide +kernel
theorem f_255_1006 : zft 255 1006 = some (1, .iconst 0) := by decide +kernel
theorem f_255_1007 : zft 255 1007 = some (1, .ireturn) := by decide +kernel
theorem f_255_1008 : zft 255 1008 = some (1, .aload_n 1) := by decide +kernel
theorem f_255_1009 : zft 255 1009 = some (1, .aload_n 0) := by decide +kernel
theorem f_255_1010 : zft 255 1010 = some (1, .iload_n 3) := by decide +kernel
theorem f_255_1011 : zft 255 1011 = some (1, .iconst 1) := by decide +kernel
theorem f_255_1012 : zft 255 1012 = some (1, .iadd) := by decide +kernel
theorem f_255_1013 : zft 255 1013 = some (1, .iaload) := by decide +kernel
theorem f_255_1014 : zft 255 1014 = some (3, .invokevirtual 145) := by decide +kernel
theorem f_255_1017 : zft 255 1017 = some (1, .aload_n 2) := by decide +kernel
theorem f_255_1018 : zft 255 1018 = some (1, .aload_n 0) := by decide +kernel
theorem f_255_1019 : zft 255 1019 = some (1, .iload_n 3) := by decide +kernel
theorem f_255_1020 : zft 255 1020 = some (1, .iconst 1) := by decide +kernel
theorem f_255_1021 : zft 255 1021 = some (1, .iadd) := by decide +kernel
theorem f_255_1022 : zft 255 1022 = some (1, .iaload) := by decide +kernel
theorem f_255_1023 : zft 255 1023 = some (3, .invokevirtual 148) := by decide +kernel
theorem f_255_1026 : zft 255 1026 = some (3, .if_icmp .eq 140) := by decide +kernel
theorem f_255_1029 : zft 255 1029 = some (1, .iconst 0) := by decide +kernel
theorem f_255_1030 : zft 255 1030 = some (1, .ireturn) := by decide +kernel
theorem f_255_1031 : zft 255 1031 = some (1, .aload_n 1) := by decide +kernel
theorem f_255_1032 : zft 255 1032 = some (1, .aload_n 0) := by decide +kernel
theorem f_255_1033 : zft 255 1033 = some (1, .iload_n 3) := by decide +kernel
theorem f_255_1034 : zft 255 1034 = some (1, .iconst 1) := by decide +kernel
theorem f_255_1035 : zft 255 1035 = some (1, .iadd) := by decide +kernel
theorem f_255_1036 : zft 255 1036 = some (1, .iaload) := by decide +kernel
theorem f_255_1037 : zft 255 1037 = some (1, .aload_n 0) := by decide +kernel
theorem f_255_1038 : zft 255 1038 = some (1, .iload_n 3) := by decide +kernel
theorem f_255_1039 : zft 255 1039 = some (1, .iconst 2) := by decide +kernel
theorem f_255_1040 : zft 255 1040 = some (1, .iadd) := by decide +kernel
theorem f_255_1041 : zft 255 1041 = some (1, .iaload) := by decide +kernel
theorem f_255_1042 : zft 255 1042 = some (3, .invokevirtual 149) := by decide +kernel
theorem f_255_1045 : zft 255 1045 = some (1, .aload_n 2) := by decide +kernel
theorem f_255_1046 : zft 255 1046 = some (1, .aload_n 0) := by decide +kernel
theorem f_255_1047 : zft 255 1047 = some (1, .iload_n 3) := by decide +kernel
theorem f_255_1048 : zft 255 1048 = some (1, .iconst 1) := by decide +kernel
theorem f_255_1049 : zft 255 1049 = some (1, .iadd) := by decide +kernel
theorem f_255_1050 : zft 255 1050 = some (1, .iaload) := by decide +kernel
theorem f_255_1051 : zft 255 1051 = some (1, .aload_n 0) := by decide +kernel
theorem f_255_1052 : zft 255 1052 = some (1, .iload_n 3) := by decide +kernel
theorem f_255_1053 : zft 255 1053 = some (1, .iconst 2) := by decide +kernel
theorem f_255_1054 : zft 255 1054 = some (1, .iadd) := by decide +kernel
theorem f_255_1055 : zft 255 1055 = some (1, .iaload) := by decide +kernel
theorem f_255_1056 : zft 255 1056 = some (3, .invokevirtual 152) := by decide +kernel
theorem f_255_1059 : zft 255 1059 = some (3, .if_icmp .eq 107) := by decide +kernel
theorem f_255_1062 : zft 255 1062 = some (1, .iconst 0) := by decide +kernel
theorem f_255_1063 : zft 255 1063 = some (1, .ireturn) := by decide +kernel
theorem f_255_1064 : zft 255 1064 = some (1, .aload_n 1) := by decide +kernel
theorem f_255_1065 : zft 255 1065 = some (3, .invokevirtual 153) := by decide +kernel
theorem f_255_1068 : zft 255 1068 = some (1, .aload_n 2) := by decide +kernel
theorem f_255_1069 : zft 255 1069 = some (3, .invokevirtual 156) := by decide +kernel
theorem f_255_1072 : zft 255 1072 = some (3, .if_icmp .eq 94) := by decide +kernel
theorem f_255_1075 : zft 255 1075 = some (1, .iconst 0) := by decide +kernel
theorem f_255_1076 : zft 255 1076 = some (1, .ireturn) := by decide +kernel
theorem f_255_1077 : zft 255 1077 = some (1, .aload_n 1) := by decide +kernel
theorem f_255_1078 : zft 255 1078 = some (1, .aload_n 0) := by decide +kernel
theorem f_255_1079 : zft 255 1079 = some (1, .iload_n 3) := by decide +kernel
theorem f_255_1080 : zft 255 1080 = some (1, .iconst 1) := by decide +kernel
theorem f_255_1081 : zft 255 1081 = some (1, .iadd) := by decide +kernel
theorem f_255_1082 : zft 255 1082 = some (1, .iaload) := by decide +kernel
theorem f_255_1083 : zft 255 1083 = some (3, .invokevirtual 157) := by decide +kernel
theorem f_255_1086 : zft 255 1086 = some (1, .aload_n 2) := by decide +kernel
theorem f_255_1087 : zft 255 1087 = some (1, .aload_n 0) := by decide +kernel
theorem f_255_1088 : zft 255 1088 = some (1, .iload_n 3) := by decide +kernel
theorem f_255_1089 : zft 255 1089 = some (1, .iconst 1) := by decide +kernel
theorem f_255_1090 : zft 255 1090 = some (1, .iadd) := by decide +kernel
theorem f_255_1091 : zft 255 1091 = some (1, .iaload) := by decide +kernel
theorem f_255_1092 : zft 255 1092 = some (3, .invokevirtual 160) := by decide +kernel
theorem f_255_1095 : zft 255 1095 = some (3, .if_icmp .eq 71) := by decide +kernel
theorem f_255_1098 : zft 255 1098 = some (1, .iconst 0) := by decide +kernel
theorem f_255_1099 : zft 255 1099 = some (1, .ireturn) := by decide +kernel
theorem f_255_1100 : zft 255 1100 = some (1, .aload_n 1) := by decide +kernel
theorem f_255_1101 : zft 255 1101 = some (3, .invokevirtual 161) := by decide +kernel
theorem f_255_1104 : zft 255 1104 = some (1, .aload_n 2) := by decide +kernel
theorem f_255_1105 : zft 255 1105 = some (3, .invokevirtual 164) := by decide +kernel
theorem f_255_1108 : zft 255 1108 = some (3, .if_icmp .eq 58) := by decide +kernel
theorem f_255_1111 : zft 255 1111 = some (1, .iconst 0) := by decide +kernel
theorem f_255_1112 : zft 255 1112 = some (1, .ireturn) := by decide +kernel
theorem f_255_1113 : zft 255 1113 = some (1, .aload_n 1) := by decide +kernel
theorem f_255_1114 : zft 255 1114 = some (3, .invokevirtual 165) := by decide +kernel
theorem f_255_1117 : zft 255 1117 = some (1, .aload_n 2) := by decide +kernel
theorem f_255_1118 : zft 255 1118 = some (3, .invokevirtual 168) := by decide +kernel
theorem f_255_1121 : zft 255 1121 = some (3, .if_icmp .eq 45) := by decide +kernel
theorem f_255_1124 : zft 255 1124 = some (1, .iconst 0) := by decide +kernel
theorem f_255_1125 : zft 255 1125 = some (1, .ireturn) := by decide +kernel
theorem f_255_1126 : zft 255 1126 = some (1, .aload_n 1) := by decide +kernel
theorem f_255_1127 : zft 255 1127 = some (3, .invokevirtual 169) := by decide +kernel
theorem f_255_1130 : zft 255 1130 = some (1, .aload_n 2) := by decide +kernel
theorem f_255_1131 : zft 255 1131 = some (3, .invokevirtual 173) := by decide +kernel
theorem f_255_1134 : zft 255 1134 = some (1, .lcmp) := by decide +kernel
theorem f_255_1135 : zft 255 1135 = some (3, .ifCond .eq 31) := by decide +kernel
theorem f_255_1138 : zft 255 1138 = some (1, .iconst 0) := by decide +kernel
theorem f_255_1139 : zft 255 1139 = some (1, .ireturn) := by decide +kernel
theorem f_255_1140 : zft 255 1140 = some (1, .aload_n 1) := by decide +kernel
theorem f_255_1141 : zft 255 1141 = some (3, .invokevirtual 174) := by decide +kernel
theorem f_255_1144 : zft 255 1144 = some (1, .aload_n 2) := by decide +kernel
theorem f_255_1145 : zft 255 1145 = some (3, .invokevirtual 177) := by decide +kernel
theorem f_255_1148 : zft 255 1148 = some (3, .if_icmp .eq 18) := by decide +kernel
theorem f_255_1151 : zft 255 1151 = some (1, .iconst 0) := by decide +kernel
theorem f_255_1152 : zft 255 1152 = some (1, .ireturn) := by decide +kernel
theorem f_255_1153 : zft 255 1153 = some (1, .aload_n 1) := by decide +kernel
theorem f_255_1154 : zft 255 1154 = some (3, .invokevirtual 178) := by decide +kernel
theorem f_255_1157 : zft 255 1157 = some (1, .aload_n 2) := by decide +kernel
theorem f_255_1158 : zft 255 1158 = some (3, .invokevirtual 181) := by decide +kernel
theorem f_255_1161 : zft 255 1161 = some (3, .if_icmp .eq 5) := by decide +kernel
theorem f_255_1164 : zft 255 1164 = some (1, .iconst 0) := by decide +kernel
theorem f_255_1165 : zft 255 1165 = some (1, .ireturn) := by decide +kernel
theorem f_255_1166 : zft 255 1166 = some (3, .iinc 3 5) := by decide +kernel
theorem f_255_1169 : zft 255 1169 = some (3, .goto (-1151)) := by decide +kernel
theorem f_255_1172 : zft 255 1172 = some (1, .iconst 1) := by decide +kernel
theorem f_255_1173 : zft 255 1173 = some (1, .ireturn) := by decide +kernel
theorem g_0_11 : zFl.lookup (zky (zown 0) 11) = some (0, 0) := by decide +kernel
theorem g_0_15 : zFl.lookup (zky (zown 0) 15) = some (0, 1) := by decide +kernel
theorem g_0_18 : zFl.lookup (zky (zown 0) 18) = some (0, 2) := by decide +kernel
theorem g_0_21 : zFl.lookup (zky (zown 0) 21) = some (0, 3) := by decide +kernel
theorem g_0_24 : zFl.lookup (zky (zown 0) 24) = some (0, 4) := by decide +kernel
theorem g_0_27 : zFl.lookup (zky (zown 0) 27) = some (0, 5) := by decide +kernel
theorem g_0_30 : zFl.lookup (zky (zown 0) 30) = some (0, 6) := by decide +kernel
theorem g_0_33 : zFl.lookup (zky (zown 0) 33) = some (0, 7) := by decide +kernel
theorem g_0_36 : zFl.lookup (zky (zown 0) 36) = some (0, 8) := by decide +kernel
theorem g_0_40 : zFl.lookup (zky (zown 0) 40) = some (0, 9) := by decide +kernel
theorem g_0_43 : zFl.lookup (zky (zown 0) 43) = some (0, 10) := by decide +kernel
theorem g_0_46 : zFl.lookup (zky (zown 0) 46) = some (0, 11) := by decide +kernel
theorem g_1_30 : zFl.lookup (zky (zown 1) 30) = some (0, 6) := by decide +kernel
theorem g_1_33 : zFl.lookup (zky (zown 1) 33) = some (0, 7) := by decide +kernel
theorem g_1_36 : zFl.lookup (zky (zown 1) 36) = some (0, 8) := by decide +kernel
theorem g_1_40 : zFl.lookup (zky (zown 1) 40) = some (0, 9) := by decide +kernel
theorem g_1_43 : zFl.lookup (zky (zown 1) 43) = some (0, 10) := by decide +kernel
theorem g_1_46 : zFl.lookup (zky (zown 1) 46) = some (0, 11) := by decide +kernel
theorem g_2_46 : zFl.lookup (zky (zown 2) 46) = some (0, 11) := by decide +kernel
theorem g_3_11 : zFl.lookup (zky (zown 3) 11) = some (0, 0) := by decide +kernel
theorem g_3_15 : zFl.lookup (zky (zown 3) 15) = some (0, 1) := by decide +kernel
theorem g_3_18 : zFl.lookup (zky (zown 3) 18) = some (0, 2) := by decide +kernel
theorem g_3_21 : zFl.lookup (zky (zown 3) 21) = some (0, 3) := by decide +kernel
theorem g_3_36 : zFl.lookup (zky (zown 3) 36) = some (0, 8) := by decide +kernel
theorem g_4_24 : zFl.lookup (zky (zown 4) 24) = some (0, 4) := by decide +kernel
theorem g_4_27 : zFl.lookup (zky (zown 4) 27) = some (0, 5) := by decide +kernel
theorem g_4_40 : zFl.lookup (zky (zown 4) 40) = some (0, 9) := by decide +kernel
theorem g_5_30 : zFl.lookup (zky (zown 5) 30) = some (0, 6) := by decide +kernel
theorem g_5_40 : zFl.lookup (zky (zown 5) 40) = some (0, 9) := by decide +kernel
theorem g_6_33 : zFl.lookup (zky (zown 6) 33) = some (0, 7) := by decide +kernel
theorem g_6_43 : zFl.lookup (zky (zown 6) 43) = some (0, 10) := by decide +kernel
theorem g_7_11 : zFl.lookup (zky (zown 7) 11) = some (0, 0) := by decide +kernel
theorem g_7_15 : zFl.lookup (zky (zown 7) 15) = some (0, 1) := by decide +kernel
theorem g_7_18 : zFl.lookup (zky (zown 7) 18) = some (0, 2) := by decide +kernel
theorem g_7_21 : zFl.lookup (zky (zown 7) 21) = some (0, 3) := by decide +kernel
theorem g_7_36 : zFl.lookup (zky (zown 7) 36) = some (0, 8) := by decide +kernel
theorem g_8_11 : zFl.lookup (zky (zown 8) 11) = some (0, 0) := by decide +kernel
theorem g_8_15 : zFl.lookup (zky (zown 8) 15) = some (0, 1) := by decide +kernel
theorem g_8_18 : zFl.lookup (zky (zown 8) 18) = some (0, 2) := by decide +kernel
theorem g_8_21 : zFl.lookup (zky (zown 8) 21) = some (0, 3) := by decide +kernel
theorem g_9_24 : zFl.lookup (zky (zown 9) 24) = some (0, 4) := by decide +kernel
theorem g_9_27 : zFl.lookup (zky (zown 9) 27) = some (0, 5) := by decide +kernel
theorem g_10_9 : zFl.lookup (zky (zown 10) 9) = some (1, 0) := by decide +kernel
theorem g_10_15 : zFl.lookup (zky (zown 10) 15) = some (1, 1) := by decide +kernel
theorem g_10_18 : zFl.lookup (zky (zown 10) 18) = some (1, 2) := by decide +kernel
theorem g_10_21 : zFl.lookup (zky (zown 10) 21) = some (1, 3) := by decide +kernel
theorem g_10_24 : zFl.lookup (zky (zown 10) 24) = some (1, 4) := by decide +kernel
theorem g_10_27 : zFl.lookup (zky (zown 10) 27) = some (1, 5) := by decide +kernel
theorem g_10_30 : zFl.lookup (zky (zown 10) 30) = some (1, 6) := by decide +kernel
theorem g_10_33 : zFl.lookup (zky (zown 10) 33) = some (1, 7) := by decide +kernel
theorem g_10_36 : zFl.lookup (zky (zown 10) 36) = some (1, 8) := by decide +kernel
theorem g_10_40 : zFl.lookup (zky (zown 10) 40) = some (1, 9) := by decide +kernel
theorem g_10_43 : zFl.lookup (zky (zown 10) 43) = some (1, 10) := by decide +kernel
theorem g_10_46 : zFl.lookup (zky (zown 10) 46) = some (1, 11) := by decide +kernel
theorem g_11_36 : zFl.lookup (zky (zown 11) 36) = some (1, 8) := by decide +kernel
theorem g_11_40 : zFl.lookup (zky (zown 11) 40) = some (1, 9) := by decide +kernel
theorem g_11_43 : zFl.lookup (zky (zown 11) 43) = some (1, 10) := by decide +kernel
theorem g_11_46 : zFl.lookup (zky (zown 11) 46) = some (1, 11) := by decide +kernel
theorem g_12_9 : zFl.lookup (zky (zown 12) 9) = some (1, 0) := by decide +kernel
theorem g_12_15 : zFl.lookup (zky (zown 12) 15) = some (1, 1) := by decide +kernel
theorem g_12_18 : zFl.lookup (zky (zown 12) 18) = some (1, 2) := by decide +kernel
theorem g_12_21 : zFl.lookup (zky (zown 12) 21) = some (1, 3) := by decide +kernel
theorem g_12_24 : zFl.lookup (zky (zown 12) 24) = some (1, 4) := by decide +kernel
theorem g_13_27 : zFl.lookup (zky (zown 13) 27) = some (1, 5) := by decide +kernel
theorem g_13_30 : zFl.lookup (zky (zown 13) 30) = some (1, 6) := by decide +kernel
theorem g_13_33 : zFl.lookup (zky (zown 13) 33) = some (1, 7) := by decide +kernel
theorem g_14_36 : zFl.lookup (zky (zown 14) 36) = some (1, 8) := by decide +kernel
theorem g_14_40 : zFl.lookup (zky (zown 14) 40) = some (1, 9) := by decide +kernel
theorem g_14_43 : zFl.lookup (zky (zown 14) 43) = some (1, 10) := by decide +kernel
theorem g_15_36 : zFl.lookup (zky (zown 15) 36) = some (1, 8) := by decide +kernel
theorem g_16_40 : zFl.lookup (zky (zown 16) 40) = some (1, 9) := by decide +kernel
theorem g_17_9 : zFl.lookup (zky (zown 17) 9) = some (1, 0) := by decide +kernel
theorem g_17_15 : zFl.lookup (zky (zown 17) 15) = some (1, 1) := by decide +kernel
theorem g_17_18 : zFl.lookup (zky (zown 17) 18) = some (1, 2) := by decide +kernel
theorem g_17_21 : zFl.lookup (zky (zown 17) 21) = some (1, 3) := by decide +kernel
theorem g_17_24 : zFl.lookup (zky (zown 17) 24) = some (1, 4) := by decide +kernel
theorem g_17_36 : zFl.lookup (zky (zown 17) 36) = some (1, 8) := by decide +kernel
theorem g_19_9 : zFl.lookup (zky (zown 19) 9) = some (1, 0) := by decide +kernel
theorem g_19_15 : zFl.lookup (zky (zown 19) 15) = some (1, 1) := by decide +kernel
theorem g_19_18 : zFl.lookup (zky (zown 19) 18) = some (1, 2) := by decide +kernel
theorem g_19_21 : zFl.lookup (zky (zown 19) 21) = some (1, 3) := by decide +kernel
theorem g_19_36 : zFl.lookup (zky (zown 19) 36) = some (1, 8) := by decide +kernel
theorem g_20_27 : zFl.lookup (zky (zown 20) 27) = some (1, 5) := by decide +kernel
theorem g_20_30 : zFl.lookup (zky (zown 20) 30) = some (1, 6) := by decide +kernel
theorem g_20_33 : zFl.lookup (zky (zown 20) 33) = some (1, 7) := by decide +kernel
theorem g_20_40 : zFl.lookup (zky (zown 20) 40) = some (1, 9) := by decide +kernel
theorem g_21_36 : zFl.lookup (zky (zown 21) 36) = some (1, 8) := by decide +kernel
theorem g_22_33 : zFl.lookup (zky (zown 22) 33) = some (1, 7) := by decide +kernel
theorem g_23_24 : zFl.lookup (zky (zown 23) 24) = some (1, 4) := by decide +kernel
theorem g_24_43 : zFl.lookup (zky (zown 24) 43) = some (1, 10) := by decide +kernel
theorem g_25_27 : zFl.lookup (zky (zown 25) 27) = some (1, 5) := by decide +kernel
theorem g_25_30 : zFl.lookup (zky (zown 25) 30) = some (1, 6) := by decide +kernel
theorem g_25_36 : zFl.lookup (zky (zown 25) 36) = some (1, 8) := by decide +kernel
theorem g_25_40 : zFl.lookup (zky (zown 25) 40) = some (1, 9) := by decide +kernel
theorem g_25_43 : zFl.lookup (zky (zown 25) 43) = some (1, 10) := by decide +kernel
theorem g_26_40 : zFl.lookup (zky (zown 26) 40) = some (1, 9) := by decide +kernel
theorem g_28_40 : zFl.lookup (zky (zown 28) 40) = some (1, 9) := by decide +kernel
theorem g_29_27 : zFl.lookup (zky (zown 29) 27) = some (1, 5) := by decide +kernel
theorem g_29_30 : zFl.lookup (zky (zown 29) 30) = some (1, 6) := by decide +kernel
theorem g_30_40 : zFl.lookup (zky (zown 30) 40) = some (1, 9) := by decide +kernel
theorem g_31_40 : zFl.lookup (zky (zown 31) 40) = some (1, 9) := by decide +kernel
theorem g_32_9 : zFl.lookup (zky (zown 32) 9) = some (1, 0) := by decide +kernel
theorem g_32_18 : zFl.lookup (zky (zown 32) 18) = some (1, 2) := by decide +kernel
theorem g_33_15 : zFl.lookup (zky (zown 33) 15) = some (1, 1) := by decide +kernel
theorem g_33_21 : zFl.lookup (zky (zown 33) 21) = some (1, 3) := by decide +kernel
theorem g_35_33 : zFl.lookup (zky (zown 35) 33) = some (1, 7) := by decide +kernel
theorem g_36_24 : zFl.lookup (zky (zown 36) 24) = some (1, 4) := by decide +kernel
theorem g_37_33 : zFl.lookup (zky (zown 37) 33) = some (1, 7) := by decide +kernel
theorem g_37_40 : zFl.lookup (zky (zown 37) 40) = some (1, 9) := by decide +kernel
theorem g_38_24 : zFl.lookup (zky (zown 38) 24) = some (1, 4) := by decide +kernel
theorem g_38_36 : zFl.lookup (zky (zown 38) 36) = some (1, 8) := by decide +kernel
theorem g_39_18 : zFl.lookup (zky (zown 39) 18) = some (1, 2) := by decide +kernel
theorem g_39_21 : zFl.lookup (zky (zown 39) 21) = some (1, 3) := by decide +kernel
theorem g_40_36 : zFl.lookup (zky (zown 40) 36) = some (1, 8) := by decide +kernel
theorem g_41_36 : zFl.lookup (zky (zown 41) 36) = some (1, 8) := by decide +kernel
theorem g_42_9 : zFl.lookup (zky (zown 42) 9) = some (2, 0) := by decide +kernel
theorem g_42_15 : zFl.lookup (zky (zown 42) 15) = some (2, 1) := by decide +kernel
theorem g_42_18 : zFl.lookup (zky (zown 42) 18) = some (2, 2) := by decide +kernel
theorem g_42_21 : zFl.lookup (zky (zown 42) 21) = some (2, 3) := by decide +kernel
theorem g_42_24 : zFl.lookup (zky (zown 42) 24) = some (2, 4) := by decide +kernel
theorem g_43_9 : zFl.lookup (zky (zown 43) 9) = some (2, 0) := by decide +kernel
theorem g_43_15 : zFl.lookup (zky (zown 43) 15) = some (2, 1) := by decide +kernel
theorem g_43_18 : zFl.lookup (zky (zown 43) 18) = some (2, 2) := by decide +kernel
theorem g_43_24 : zFl.lookup (zky (zown 43) 24) = some (2, 4) := by decide +kernel
theorem g_43_28 : zFl.lookup (zky (zown 43) 28) = some (1, 10) := by decide +kernel
theorem g_43_39 : zFl.lookup (zky (zown 43) 39) = some (1, 8) := by decide +kernel
theorem g_44_50 : zFl.lookup (zky (zown 44) 50) = some (1, 11) := by decide +kernel
theorem g_45_15 : zFl.lookup (zky (zown 45) 15) = some (2, 1) := by decide +kernel
theorem g_45_39 : zFl.lookup (zky (zown 45) 39) = some (1, 8) := by decide +kernel
theorem g_46_70 : zFl.lookup (zky (zown 46) 70) = some (1, 9) := by decide +kernel
theorem g_46_73 : zFl.lookup (zky (zown 46) 73) = some (1, 5) := by decide +kernel
theorem g_46_76 : zFl.lookup (zky (zown 46) 76) = some (1, 6) := by decide +kernel
theorem g_47_24 : zFl.lookup (zky (zown 47) 24) = some (2, 4) := by decide +kernel
theorem g_48_18 : zFl.lookup (zky (zown 48) 18) = some (2, 2) := by decide +kernel
theorem g_48_24 : zFl.lookup (zky (zown 48) 24) = some (2, 4) := by decide +kernel
theorem g_49_15 : zFl.lookup (zky (zown 49) 15) = some (2, 1) := by decide +kernel
theorem g_49_18 : zFl.lookup (zky (zown 49) 18) = some (2, 2) := by decide +kernel
theorem g_50_18 : zFl.lookup (zky (zown 50) 18) = some (2, 2) := by decide +kernel
theorem g_50_21 : zFl.lookup (zky (zown 50) 21) = some (2, 3) := by decide +kernel
theorem g_50_24 : zFl.lookup (zky (zown 50) 24) = some (2, 4) := by decide +kernel
theorem g_51_9 : zFl.lookup (zky (zown 51) 9) = some (3, 0) := by decide +kernel
theorem g_51_15 : zFl.lookup (zky (zown 51) 15) = some (3, 1) := by decide +kernel
theorem g_51_18 : zFl.lookup (zky (zown 51) 18) = some (3, 2) := by decide +kernel
theorem g_51_21 : zFl.lookup (zky (zown 51) 21) = some (3, 3) := by decide +kernel
theorem g_51_24 : zFl.lookup (zky (zown 51) 24) = some (3, 4) := by decide +kernel
theorem g_51_27 : zFl.lookup (zky (zown 51) 27) = some (3, 5) := by decide +kernel
theorem g_52_9 : zFl.lookup (zky (zown 52) 9) = some (3, 0) := by decide +kernel
theorem g_52_15 : zFl.lookup (zky (zown 52) 15) = some (3, 1) := by decide +kernel
theorem g_52_18 : zFl.lookup (zky (zown 52) 18) = some (3, 2) := by decide +kernel
theorem g_52_37 : zFl.lookup (zky (zown 52) 37) = some (1, 8) := by decide +kernel
theorem g_52_46 : zFl.lookup (zky (zown 52) 46) = some (1, 9) := by decide +kernel
theorem g_53_9 : zFl.lookup (zky (zown 53) 9) = some (3, 0) := by decide +kernel
theorem g_53_52 : zFl.lookup (zky (zown 53) 52) = some (1, 3) := by decide +kernel
theorem g_53_55 : zFl.lookup (zky (zown 53) 55) = some (1, 2) := by decide +kernel
theorem g_53_58 : zFl.lookup (zky (zown 53) 58) = some (1, 0) := by decide +kernel
theorem g_53_61 : zFl.lookup (zky (zown 53) 61) = some (1, 1) := by decide +kernel
theorem g_54_9 : zFl.lookup (zky (zown 54) 9) = some (3, 0) := by decide +kernel
theorem g_54_15 : zFl.lookup (zky (zown 54) 15) = some (3, 1) := by decide +kernel
theorem g_54_18 : zFl.lookup (zky (zown 54) 18) = some (3, 2) := by decide +kernel
theorem g_54_68 : zFl.lookup (zky (zown 54) 68) = some (1, 5) := by decide +kernel
theorem g_54_71 : zFl.lookup (zky (zown 54) 71) = some (1, 6) := by decide +kernel
theorem g_54_81 : zFl.lookup (zky (zown 54) 81) = some (1, 7) := by decide +kernel
theorem g_55_68 : zFl.lookup (zky (zown 55) 68) = some (1, 5) := by decide +kernel
theorem g_55_71 : zFl.lookup (zky (zown 55) 71) = some (1, 6) := by decide +kernel
theorem g_56_9 : zFl.lookup (zky (zown 56) 9) = some (3, 0) := by decide +kernel
theorem g_56_68 : zFl.lookup (zky (zown 56) 68) = some (1, 5) := by decide +kernel
theorem g_56_71 : zFl.lookup (zky (zown 56) 71) = some (1, 6) := by decide +kernel
theorem g_57_15 : zFl.lookup (zky (zown 57) 15) = some (3, 1) := by decide +kernel
theorem g_58_9 : zFl.lookup (zky (zown 58) 9) = some (3, 0) := by decide +kernel
theorem g_58_15 : zFl.lookup (zky (zown 58) 15) = some (3, 1) := by decide +kernel
theorem g_59_9 : zFl.lookup (zky (zown 59) 9) = some (3, 0) := by decide +kernel
theorem g_59_15 : zFl.lookup (zky (zown 59) 15) = some (3, 1) := by decide +kernel
theorem g_60_9 : zFl.lookup (zky (zown 60) 9) = some (3, 0) := by decide +kernel
theorem g_60_15 : zFl.lookup (zky (zown 60) 15) = some (3, 1) := by decide +kernel
theorem g_60_18 : zFl.lookup (zky (zown 60) 18) = some (3, 2) := by decide +kernel
theorem g_61_110 : zFl.lookup (zky (zown 61) 110) = some (1, 10) := by decide +kernel
theorem g_61_113 : zFl.lookup (zky (zown 61) 113) = some (1, 4) := by decide +kernel
theorem g_62_21 : zFl.lookup (zky (zown 62) 21) = some (3, 3) := by decide +kernel
theorem g_62_24 : zFl.lookup (zky (zown 62) 24) = some (3, 4) := by decide +kernel
theorem g_62_27 : zFl.lookup (zky (zown 62) 27) = some (3, 5) := by decide +kernel
theorem g_63_21 : zFl.lookup (zky (zown 63) 21) = some (3, 3) := by decide +kernel
theorem g_63_24 : zFl.lookup (zky (zown 63) 24) = some (3, 4) := by decide +kernel
theorem g_63_27 : zFl.lookup (zky (zown 63) 27) = some (3, 5) := by decide +kernel
theorem g_64_13 : zFl.lookup (zky (zown 64) 13) = some (4, 0) := by decide +kernel
theorem g_64_17 : zFl.lookup (zky (zown 64) 17) = some (4, 1) := by decide +kernel
theorem g_64_21 : zFl.lookup (zky (zown 64) 21) = some (4, 2) := by decide +kernel
theorem g_65_13 : zFl.lookup (zky (zown 65) 13) = some (4, 0) := by decide +kernel
theorem g_65_17 : zFl.lookup (zky (zown 65) 17) = some (4, 1) := by decide +kernel
theorem g_66_17 : zFl.lookup (zky (zown 66) 17) = some (4, 1) := by decide +kernel
theorem g_66_21 : zFl.lookup (zky (zown 66) 21) = some (4, 2) := by decide +kernel
theorem g_67_13 : zFl.lookup (zky (zown 67) 13) = some (4, 0) := by decide +kernel
theorem g_67_17 : zFl.lookup (zky (zown 67) 17) = some (4, 1) := by decide +kernel
theorem g_68_13 : zFl.lookup (zky (zown 68) 13) = some (4, 0) := by decide +kernel
theorem g_68_17 : zFl.lookup (zky (zown 68) 17) = some (4, 1) := by decide +kernel
theorem g_68_21 : zFl.lookup (zky (zown 68) 21) = some (4, 2) := by decide +kernel
theorem g_69_21 : zFl.lookup (zky (zown 69) 21) = some (4, 2) := by decide +kernel
theorem g_70_9 : zFl.lookup (zky (zown 70) 9) = some (5, 0) := by decide +kernel
theorem g_71_26 : zFl.lookup (zky (zown 71) 26) = some (1, 7) := by decide +kernel
theorem g_71_31 : zFl.lookup (zky (zown 71) 31) = some (1, 4) := by decide +kernel
theorem g_72_26 : zFl.lookup (zky (zown 72) 26) = some (1, 7) := by decide +kernel
theorem g_72_34 : zFl.lookup (zky (zown 72) 34) = some (1, 9) := by decide +kernel
theorem g_72_49 : zFl.lookup (zky (zown 72) 49) = some (1, 8) := by decide +kernel
theorem g_73_26 : zFl.lookup (zky (zown 73) 26) = some (1, 7) := by decide +kernel
theorem g_73_34 : zFl.lookup (zky (zown 73) 34) = some (1, 9) := by decide +kernel
theorem g_73_49 : zFl.lookup (zky (zown 73) 49) = some (1, 8) := by decide +kernel
theorem g_74_9 : zFl.lookup (zky (zown 74) 9) = some (5, 0) := by decide +kernel
theorem g_74_31 : zFl.lookup (zky (zown 74) 31) = some (1, 4) := by decide +kernel
theorem g_74_49 : zFl.lookup (zky (zown 74) 49) = some (1, 8) := by decide +kernel
theorem g_74_71 : zFl.lookup (zky (zown 74) 71) = some (1, 10) := by decide +kernel
theorem g_75_9 : zFl.lookup (zky (zown 75) 9) = some (1, 8) := by decide +kernel
theorem g_75_21 : zFl.lookup (zky (zown 75) 21) = some (1, 9) := by decide +kernel
theorem g_75_24 : zFl.lookup (zky (zown 75) 24) = some (1, 5) := by decide +kernel
theorem g_75_28 : zFl.lookup (zky (zown 75) 28) = some (1, 6) := by decide +kernel
theorem g_77_9 : zFl.lookup (zky (zown 77) 9) = some (1, 8) := by decide +kernel
theorem g_77_43 : zFl.lookup (zky (zown 77) 43) = some (1, 10) := by decide +kernel
theorem g_78_9 : zFl.lookup (zky (zown 78) 9) = some (1, 8) := by decide +kernel
theorem g_80_9 : zFl.lookup (zky (zown 80) 9) = some (1, 8) := by decide +kernel
theorem g_81_21 : zFl.lookup (zky (zown 81) 21) = some (1, 9) := by decide +kernel
theorem g_82_9 : zFl.lookup (zky (zown 82) 9) = some (1, 8) := by decide +kernel
theorem g_82_21 : zFl.lookup (zky (zown 82) 21) = some (1, 9) := by decide +kernel
theorem g_82_24 : zFl.lookup (zky (zown 82) 24) = some (1, 5) := by decide +kernel
theorem g_82_28 : zFl.lookup (zky (zown 82) 28) = some (1, 6) := by decide +kernel
theorem g_84_11 : zFl.lookup (zky (zown 84) 11) = some (7, 0) := by decide +kernel
theorem g_84_15 : zFl.lookup (zky (zown 84) 15) = some (7, 1) := by decide +kernel
theorem g_84_18 : zFl.lookup (zky (zown 84) 18) = some (7, 2) := by decide +kernel
theorem g_84_23 : zFl.lookup (zky (zown 84) 23) = some (7, 3) := by decide +kernel
theorem g_84_26 : zFl.lookup (zky (zown 84) 26) = some (7, 4) := by decide +kernel
theorem g_84_30 : zFl.lookup (zky (zown 84) 30) = some (7, 5) := by decide +kernel
theorem g_84_33 : zFl.lookup (zky (zown 84) 33) = some (7, 6) := by decide +kernel
theorem g_84_36 : zFl.lookup (zky (zown 84) 36) = some (7, 7) := by decide +kernel
theorem g_85_30 : zFl.lookup (zky (zown 85) 30) = some (7, 5) := by decide +kernel
theorem g_86_11 : zFl.lookup (zky (zown 86) 11) = some (7, 0) := by decide +kernel
theorem g_86_30 : zFl.lookup (zky (zown 86) 30) = some (7, 5) := by decide +kernel
theorem g_87_26 : zFl.lookup (zky (zown 87) 26) = some (7, 4) := by decide +kernel
theorem g_87_30 : zFl.lookup (zky (zown 87) 30) = some (7, 5) := by decide +kernel
theorem g_87_36 : zFl.lookup (zky (zown 87) 36) = some (7, 7) := by decide +kernel
theorem g_88_26 : zFl.lookup (zky (zown 88) 26) = some (7, 4) := by decide +kernel
theorem g_88_30 : zFl.lookup (zky (zown 88) 30) = some (7, 5) := by decide +kernel
theorem g_88_33 : zFl.lookup (zky (zown 88) 33) = some (7, 6) := by decide +kernel
theorem g_89_15 : zFl.lookup (zky (zown 89) 15) = some (7, 1) := by decide +kernel
theorem g_89_18 : zFl.lookup (zky (zown 89) 18) = some (7, 2) := by decide +kernel
theorem g_89_23 : zFl.lookup (zky (zown 89) 23) = some (7, 3) := by decide +kernel
theorem g_89_26 : zFl.lookup (zky (zown 89) 26) = some (7, 4) := by decide +kernel
theorem g_91_26 : zFl.lookup (zky (zown 91) 26) = some (7, 4) := by decide +kernel
theorem g_92_26 : zFl.lookup (zky (zown 92) 26) = some (7, 4) := by decide +kernel
theorem g_93_11 : zFl.lookup (zky (zown 93) 11) = some (7, 0) := by decide +kernel
theorem g_93_30 : zFl.lookup (zky (zown 93) 30) = some (7, 5) := by decide +kernel
theorem g_95_15 : zFl.lookup (zky (zown 95) 15) = some (7, 1) := by decide +kernel
theorem g_95_18 : zFl.lookup (zky (zown 95) 18) = some (7, 2) := by decide +kernel
theorem g_95_23 : zFl.lookup (zky (zown 95) 23) = some (7, 3) := by decide +kernel
theorem g_95_33 : zFl.lookup (zky (zown 95) 33) = some (7, 6) := by decide +kernel
theorem g_95_36 : zFl.lookup (zky (zown 95) 36) = some (7, 7) := by decide +kernel
theorem g_97_11 : zFl.lookup (zky (zown 97) 11) = some (8, 0) := by decide +kernel
theorem g_97_15 : zFl.lookup (zky (zown 97) 15) = some (8, 1) := by decide +kernel
theorem g_97_18 : zFl.lookup (zky (zown 97) 18) = some (8, 2) := by decide +kernel
theorem g_97_21 : zFl.lookup (zky (zown 97) 21) = some (8, 3) := by decide +kernel
theorem g_97_24 : zFl.lookup (zky (zown 97) 24) = some (8, 4) := by decide +kernel
theorem g_97_27 : zFl.lookup (zky (zown 97) 27) = some (8, 5) := by decide +kernel
theorem g_97_30 : zFl.lookup (zky (zown 97) 30) = some (8, 6) := by decide +kernel
theorem g_98_24 : zFl.lookup (zky (zown 98) 24) = some (8, 4) := by decide +kernel
theorem g_98_27 : zFl.lookup (zky (zown 98) 27) = some (8, 5) := by decide +kernel
theorem g_98_30 : zFl.lookup (zky (zown 98) 30) = some (8, 6) := by decide +kernel
theorem g_98_40 : zFl.lookup (zky (zown 98) 40) = some (1, 8) := by decide +kernel
theorem g_98_44 : zFl.lookup (zky (zown 98) 44) = some (1, 10) := by decide +kernel
theorem g_99_11 : zFl.lookup (zky (zown 99) 11) = some (8, 0) := by decide +kernel
theorem g_99_15 : zFl.lookup (zky (zown 99) 15) = some (8, 1) := by decide +kernel
theorem g_99_40 : zFl.lookup (zky (zown 99) 40) = some (1, 8) := by decide +kernel
theorem g_100_11 : zFl.lookup (zky (zown 100) 11) = some (8, 0) := by decide +kernel
theorem g_100_15 : zFl.lookup (zky (zown 100) 15) = some (8, 1) := by decide +kernel
theorem g_100_18 : zFl.lookup (zky (zown 100) 18) = some (8, 2) := by decide +kernel
theorem g_100_21 : zFl.lookup (zky (zown 100) 21) = some (8, 3) := by decide +kernel
theorem g_100_24 : zFl.lookup (zky (zown 100) 24) = some (8, 4) := by decide +kernel
theorem g_100_27 : zFl.lookup (zky (zown 100) 27) = some (8, 5) := by decide +kernel
theorem g_100_30 : zFl.lookup (zky (zown 100) 30) = some (8, 6) := by decide +kernel
theorem g_101_21 : zFl.lookup (zky (zown 101) 21) = some (8, 3) := by decide +kernel
theorem g_101_27 : zFl.lookup (zky (zown 101) 27) = some (8, 5) := by decide +kernel
theorem g_102_11 : zFl.lookup (zky (zown 102) 11) = some (8, 0) := by decide +kernel
theorem g_102_18 : zFl.lookup (zky (zown 102) 18) = some (8, 2) := by decide +kernel
theorem g_102_27 : zFl.lookup (zky (zown 102) 27) = some (8, 5) := by decide +kernel
theorem g_103_12 : zFl.lookup (zky (zown 103) 12) = some (9, 0) := by decide +kernel
theorem g_103_16 : zFl.lookup (zky (zown 103) 16) = some (9, 1) := by decide +kernel
theorem g_103_22 : zFl.lookup (zky (zown 103) 22) = some (9, 2) := by decide +kernel
theorem g_103_29 : zFl.lookup (zky (zown 103) 29) = some (9, 3) := by decide +kernel
theorem g_103_36 : zFl.lookup (zky (zown 103) 36) = some (9, 4) := by decide +kernel
theorem g_103_43 : zFl.lookup (zky (zown 103) 43) = some (9, 5) := by decide +kernel
theorem g_103_50 : zFl.lookup (zky (zown 103) 50) = some (9, 6) := by decide +kernel
theorem g_103_57 : zFl.lookup (zky (zown 103) 57) = some (9, 7) := by decide +kernel
theorem g_103_64 : zFl.lookup (zky (zown 103) 64) = some (9, 8) := by decide +kernel
theorem g_103_68 : zFl.lookup (zky (zown 103) 68) = some (9, 9) := by decide +kernel
theorem g_104_12 : zFl.lookup (zky (zown 104) 12) = some (9, 0) := by decide +kernel
theorem g_104_22 : zFl.lookup (zky (zown 104) 22) = some (9, 2) := by decide +kernel
theorem g_105_12 : zFl.lookup (zky (zown 105) 12) = some (9, 0) := by decide +kernel
theorem g_105_22 : zFl.lookup (zky (zown 105) 22) = some (9, 2) := by decide +kernel
theorem g_106_12 : zFl.lookup (zky (zown 106) 12) = some (9, 0) := by decide +kernel
theorem g_106_22 : zFl.lookup (zky (zown 106) 22) = some (9, 2) := by decide +kernel
theorem g_107_12 : zFl.lookup (zky (zown 107) 12) = some (9, 0) := by decide +kernel
theorem g_107_22 : zFl.lookup (zky (zown 107) 22) = some (9, 2) := by decide +kernel
theorem g_108_12 : zFl.lookup (zky (zown 108) 12) = some (9, 0) := by decide +kernel
theorem g_108_22 : zFl.lookup (zky (zown 108) 22) = some (9, 2) := by decide +kernel
theorem g_109_12 : zFl.lookup (zky (zown 109) 12) = some (9, 0) := by decide +kernel
theorem g_109_22 : zFl.lookup (zky (zown 109) 22) = some (9, 2) := by decide +kernel
theorem g_110_12 : zFl.lookup (zky (zown 110) 12) = some (9, 0) := by decide +kernel
theorem g_110_22 : zFl.lookup (zky (zown 110) 22) = some (9, 2) := by decide +kernel
theorem g_111_12 : zFl.lookup (zky (zown 111) 12) = some (9, 0) := by decide +kernel
theorem g_111_22 : zFl.lookup (zky (zown 111) 22) = some (9, 2) := by decide +kernel
theorem g_111_36 : zFl.lookup (zky (zown 111) 36) = some (9, 4) := by decide +kernel
theorem g_111_110 : zFl.lookup (zky (zown 111) 110) = some (1, 8) := by decide +kernel
theorem g_112_12 : zFl.lookup (zky (zown 112) 12) = some (9, 0) := by decide +kernel
theorem g_112_22 : zFl.lookup (zky (zown 112) 22) = some (9, 2) := by decide +kernel
theorem g_113_12 : zFl.lookup (zky (zown 113) 12) = some (9, 0) := by decide +kernel
theorem g_113_22 : zFl.lookup (zky (zown 113) 22) = some (9, 2) := by decide +kernel
theorem g_113_43 : zFl.lookup (zky (zown 113) 43) = some (9, 5) := by decide +kernel
theorem g_114_12 : zFl.lookup (zky (zown 114) 12) = some (9, 0) := by decide +kernel
theorem g_114_22 : zFl.lookup (zky (zown 114) 22) = some (9, 2) := by decide +kernel
theorem g_114_122 : zFl.lookup (zky (zown 114) 122) = some (1, 11) := by decide +kernel
theorem g_115_29 : zFl.lookup (zky (zown 115) 29) = some (9, 3) := by decide +kernel
theorem g_116_12 : zFl.lookup (zky (zown 116) 12) = some (9, 0) := by decide +kernel
theorem g_116_22 : zFl.lookup (zky (zown 116) 22) = some (9, 2) := by decide +kernel
theorem g_116_29 : zFl.lookup (zky (zown 116) 29) = some (9, 3) := by decide +kernel
theorem g_116_139 : zFl.lookup (zky (zown 116) 139) = some (7, 6) := by decide +kernel
theorem g_117_29 : zFl.lookup (zky (zown 117) 29) = some (9, 3) := by decide +kernel
theorem g_117_142 : zFl.lookup (zky (zown 117) 142) = some (7, 7) := by decide +kernel
theorem g_118_12 : zFl.lookup (zky (zown 118) 12) = some (9, 0) := by decide +kernel
theorem g_118_22 : zFl.lookup (zky (zown 118) 22) = some (9, 2) := by decide +kernel
theorem g_119_12 : zFl.lookup (zky (zown 119) 12) = some (9, 0) := by decide +kernel
theorem g_119_29 : zFl.lookup (zky (zown 119) 29) = some (9, 3) := by decide +kernel
theorem g_119_64 : zFl.lookup (zky (zown 119) 64) = some (9, 8) := by decide +kernel
theorem g_119_110 : zFl.lookup (zky (zown 119) 110) = some (1, 8) := by decide +kernel
theorem g_119_148 : zFl.lookup (zky (zown 119) 148) = some (1, 9) := by decide +kernel
theorem g_119_178 : zFl.lookup (zky (zown 119) 178) = some (7, 5) := by decide +kernel
theorem g_120_12 : zFl.lookup (zky (zown 120) 12) = some (9, 0) := by decide +kernel
theorem g_120_185 : zFl.lookup (zky (zown 120) 185) = some (1, 0) := by decide +kernel
theorem g_120_189 : zFl.lookup (zky (zown 120) 189) = some (1, 1) := by decide +kernel
theorem g_120_192 : zFl.lookup (zky (zown 120) 192) = some (1, 2) := by decide +kernel
theorem g_120_195 : zFl.lookup (zky (zown 120) 195) = some (1, 3) := by decide +kernel
theorem g_120_198 : zFl.lookup (zky (zown 120) 198) = some (1, 4) := by decide +kernel
theorem g_121_12 : zFl.lookup (zky (zown 121) 12) = some (9, 0) := by decide +kernel
theorem g_121_64 : zFl.lookup (zky (zown 121) 64) = some (9, 8) := by decide +kernel
theorem g_121_216 : zFl.lookup (zky (zown 121) 216) = some (1, 5) := by decide +kernel
theorem g_121_219 : zFl.lookup (zky (zown 121) 219) = some (1, 6) := by decide +kernel
theorem g_121_222 : zFl.lookup (zky (zown 121) 222) = some (1, 7) := by decide +kernel
theorem g_122_12 : zFl.lookup (zky (zown 122) 12) = some (9, 0) := by decide +kernel
theorem g_123_12 : zFl.lookup (zky (zown 123) 12) = some (9, 0) := by decide +kernel
theorem g_123_110 : zFl.lookup (zky (zown 123) 110) = some (1, 8) := by decide +kernel
theorem g_123_231 : zFl.lookup (zky (zown 123) 231) = some (1, 10) := by decide +kernel
theorem g_124_12 : zFl.lookup (zky (zown 124) 12) = some (9, 0) := by decide +kernel
theorem g_124_64 : zFl.lookup (zky (zown 124) 64) = some (9, 8) := by decide +kernel
theorem g_125_12 : zFl.lookup (zky (zown 125) 12) = some (9, 0) := by decide +kernel
theorem g_125_64 : zFl.lookup (zky (zown 125) 64) = some (9, 8) := by decide +kernel
theorem g_126_12 : zFl.lookup (zky (zown 126) 12) = some (9, 0) := by decide +kernel
theorem g_126_64 : zFl.lookup (zky (zown 126) 64) = some (9, 8) := by decide +kernel
theorem g_127_12 : zFl.lookup (zky (zown 127) 12) = some (9, 0) := by decide +kernel
theorem g_127_50 : zFl.lookup (zky (zown 127) 50) = some (9, 6) := by decide +kernel
theorem g_127_252 : zFl.lookup (zky (zown 127) 252) = some (2, 0) := by decide +kernel
theorem g_128_12 : zFl.lookup (zky (zown 128) 12) = some (9, 0) := by decide +kernel
theorem g_128_50 : zFl.lookup (zky (zown 128) 50) = some (9, 6) := by decide +kernel
theorem g_128_255 : zFl.lookup (zky (zown 128) 255) = some (2, 1) := by decide +kernel
theorem g_129_12 : zFl.lookup (zky (zown 129) 12) = some (9, 0) := by decide +kernel
theorem g_129_50 : zFl.lookup (zky (zown 129) 50) = some (9, 6) := by decide +kernel
theorem g_129_258 : zFl.lookup (zky (zown 129) 258) = some (2, 4) := by decide +kernel
theorem g_130_12 : zFl.lookup (zky (zown 130) 12) = some (9, 0) := by decide +kernel
theorem g_130_50 : zFl.lookup (zky (zown 130) 50) = some (9, 6) := by decide +kernel
theorem g_130_264 : zFl.lookup (zky (zown 130) 264) = some (2, 2) := by decide +kernel
theorem g_131_12 : zFl.lookup (zky (zown 131) 12) = some (9, 0) := by decide +kernel
theorem g_131_50 : zFl.lookup (zky (zown 131) 50) = some (9, 6) := by decide +kernel
theorem g_132_12 : zFl.lookup (zky (zown 132) 12) = some (9, 0) := by decide +kernel
theorem g_132_50 : zFl.lookup (zky (zown 132) 50) = some (9, 6) := by decide +kernel
theorem g_132_110 : zFl.lookup (zky (zown 132) 110) = some (1, 8) := by decide +kernel
theorem g_132_258 : zFl.lookup (zky (zown 132) 258) = some (2, 4) := by decide +kernel
theorem g_133_12 : zFl.lookup (zky (zown 133) 12) = some (9, 0) := by decide +kernel
theorem g_134_12 : zFl.lookup (zky (zown 134) 12) = some (9, 0) := by decide +kernel
theorem g_135_12 : zFl.lookup (zky (zown 135) 12) = some (9, 0) := by decide +kernel
theorem g_136_12 : zFl.lookup (zky (zown 136) 12) = some (9, 0) := by decide +kernel
theorem g_136_57 : zFl.lookup (zky (zown 136) 57) = some (9, 7) := by decide +kernel
theorem g_137_12 : zFl.lookup (zky (zown 137) 12) = some (9, 0) := by decide +kernel
theorem g_137_57 : zFl.lookup (zky (zown 137) 57) = some (9, 7) := by decide +kernel
theorem g_138_12 : zFl.lookup (zky (zown 138) 12) = some (9, 0) := by decide +kernel
theorem g_138_57 : zFl.lookup (zky (zown 138) 57) = some (9, 7) := by decide +kernel
theorem g_138_110 : zFl.lookup (zky (zown 138) 110) = some (1, 8) := by decide +kernel
theorem g_139_12 : zFl.lookup (zky (zown 139) 12) = some (9, 0) := by decide +kernel
theorem g_139_50 : zFl.lookup (zky (zown 139) 50) = some (9, 6) := by decide +kernel
theorem g_140_12 : zFl.lookup (zky (zown 140) 12) = some (9, 0) := by decide +kernel
theorem g_140_50 : zFl.lookup (zky (zown 140) 50) = some (9, 6) := by decide +kernel
theorem g_140_258 : zFl.lookup (zky (zown 140) 258) = some (2, 4) := by decide +kernel
theorem g_141_12 : zFl.lookup (zky (zown 141) 12) = some (9, 0) := by decide +kernel
theorem g_141_50 : zFl.lookup (zky (zown 141) 50) = some (9, 6) := by decide +kernel
theorem g_142_12 : zFl.lookup (zky (zown 142) 12) = some (9, 0) := by decide +kernel
theorem g_142_50 : zFl.lookup (zky (zown 142) 50) = some (9, 6) := by decide +kernel
theorem g_142_110 : zFl.lookup (zky (zown 142) 110) = some (1, 8) := by decide +kernel
theorem g_142_255 : zFl.lookup (zky (zown 142) 255) = some (2, 1) := by decide +kernel
theorem g_143_12 : zFl.lookup (zky (zown 143) 12) = some (9, 0) := by decide +kernel
theorem g_143_16 : zFl.lookup (zky (zown 143) 16) = some (9, 1) := by decide +kernel
theorem g_143_68 : zFl.lookup (zky (zown 143) 68) = some (9, 9) := by decide +kernel
theorem g_143_110 : zFl.lookup (zky (zown 143) 110) = some (1, 8) := by decide +kernel
theorem g_144_12 : zFl.lookup (zky (zown 144) 12) = some (9, 0) := by decide +kernel
theorem g_144_16 : zFl.lookup (zky (zown 144) 16) = some (9, 1) := by decide +kernel
theorem g_144_22 : zFl.lookup (zky (zown 144) 22) = some (9, 2) := by decide +kernel
theorem g_144_68 : zFl.lookup (zky (zown 144) 68) = some (9, 9) := by decide +kernel
theorem g_144_110 : zFl.lookup (zky (zown 144) 110) = some (1, 8) := by decide +kernel
theorem g_145_22 : zFl.lookup (zky (zown 145) 22) = some (9, 2) := by decide +kernel
theorem g_146_22 : zFl.lookup (zky (zown 146) 22) = some (9, 2) := by decide +kernel
theorem g_152_7 : zFl.lookup (zky (zown 152) 7) = some (10, 0) := by decide +kernel
theorem g_152_13 : zFl.lookup (zky (zown 152) 13) = some (10, 1) := by decide +kernel
theorem g_152_16 : zFl.lookup (zky (zown 152) 16) = some (10, 3) := by decide +kernel
theorem g_152_19 : zFl.lookup (zky (zown 152) 19) = some (10, 5) := by decide +kernel
theorem g_152_22 : zFl.lookup (zky (zown 152) 22) = some (10, 7) := by decide +kernel
theorem g_152_25 : zFl.lookup (zky (zown 152) 25) = some (10, 9) := by decide +kernel
theorem g_152_28 : zFl.lookup (zky (zown 152) 28) = some (10, 11) := by decide +kernel
theorem g_152_31 : zFl.lookup (zky (zown 152) 31) = some (10, 12) := by decide +kernel
theorem g_152_34 : zFl.lookup (zky (zown 152) 34) = some (10, 14) := by decide +kernel
theorem g_152_38 : zFl.lookup (zky (zown 152) 38) = some (10, 16) := by decide +kernel
theorem g_152_42 : zFl.lookup (zky (zown 152) 42) = some (10, 18) := by decide +kernel
theorem g_152_46 : zFl.lookup (zky (zown 152) 46) = some (10, 21) := by decide +kernel
theorem g_152_49 : zFl.lookup (zky (zown 152) 49) = some (10, 22) := by decide +kernel
theorem g_152_52 : zFl.lookup (zky (zown 152) 52) = some (10, 23) := by decide +kernel
theorem g_152_55 : zFl.lookup (zky (zown 152) 55) = some (10, 24) := by decide +kernel
theorem g_154_7 : zFl.lookup (zky (zown 154) 7) = some (10, 0) := by decide +kernel
theorem g_155_7 : zFl.lookup (zky (zown 155) 7) = some (10, 0) := by decide +kernel
theorem g_156_7 : zFl.lookup (zky (zown 156) 7) = some (10, 0) := by decide +kernel
theorem g_157_7 : zFl.lookup (zky (zown 157) 7) = some (10, 0) := by decide +kernel
theorem g_162_7 : zFl.lookup (zky (zown 162) 7) = some (10, 0) := by decide +kernel
theorem g_162_19 : zFl.lookup (zky (zown 162) 19) = some (10, 5) := by decide +kernel
theorem g_163_13 : zFl.lookup (zky (zown 163) 13) = some (10, 1) := by decide +kernel
theorem g_163_19 : zFl.lookup (zky (zown 163) 19) = some (10, 5) := by decide +kernel
theorem g_163_76 : zFl.lookup (zky (zown 163) 76) = some (10, 2) := by decide +kernel
theorem g_165_7 : zFl.lookup (zky (zown 165) 7) = some (10, 0) := by decide +kernel
theorem g_166_7 : zFl.lookup (zky (zown 166) 7) = some (10, 0) := by decide +kernel
theorem g_167_7 : zFl.lookup (zky (zown 167) 7) = some (10, 0) := by decide +kernel
theorem g_168_7 : zFl.lookup (zky (zown 168) 7) = some (10, 0) := by decide +kernel
theorem g_170_7 : zFl.lookup (zky (zown 170) 7) = some (10, 0) := by decide +kernel
theorem g_171_7 : zFl.lookup (zky (zown 171) 7) = some (10, 0) := by decide +kernel
theorem g_172_7 : zFl.lookup (zky (zown 172) 7) = some (10, 0) := by decide +kernel
theorem g_173_7 : zFl.lookup (zky (zown 173) 7) = some (10, 0) := by decide +kernel
theorem g_179_7 : zFl.lookup (zky (zown 179) 7) = some (10, 0) := by decide +kernel
theorem g_180_7 : zFl.lookup (zky (zown 180) 7) = some (10, 0) := by decide +kernel
theorem g_181_127 : zFl.lookup (zky (zown 181) 127) = some (10, 6) := by decide +kernel
theorem g_182_22 : zFl.lookup (zky (zown 182) 22) = some (10, 7) := by decide +kernel
theorem g_182_25 : zFl.lookup (zky (zown 182) 25) = some (10, 9) := by decide +kernel
theorem g_182_131 : zFl.lookup (zky (zown 182) 131) = some (10, 8) := by decide +kernel
theorem g_182_141 : zFl.lookup (zky (zown 182) 141) = some (10, 10) := by decide +kernel
theorem g_185_7 : zFl.lookup (zky (zown 185) 7) = some (10, 0) := by decide +kernel
theorem g_185_22 : zFl.lookup (zky (zown 185) 22) = some (10, 7) := by decide +kernel
theorem g_185_25 : zFl.lookup (zky (zown 185) 25) = some (10, 9) := by decide +kernel
theorem g_185_127 : zFl.lookup (zky (zown 185) 127) = some (10, 6) := by decide +kernel
theorem g_185_131 : zFl.lookup (zky (zown 185) 131) = some (10, 8) := by decide +kernel
theorem g_185_141 : zFl.lookup (zky (zown 185) 141) = some (10, 10) := by decide +kernel
theorem g_186_7 : zFl.lookup (zky (zown 186) 7) = some (10, 0) := by decide +kernel
theorem g_187_7 : zFl.lookup (zky (zown 187) 7) = some (10, 0) := by decide +kernel
theorem g_187_28 : zFl.lookup (zky (zown 187) 28) = some (10, 11) := by decide +kernel
theorem g_188_7 : zFl.lookup (zky (zown 188) 7) = some (10, 0) := by decide +kernel
theorem g_188_28 : zFl.lookup (zky (zown 188) 28) = some (10, 11) := by decide +kernel
theorem g_189_7 : zFl.lookup (zky (zown 189) 7) = some (10, 0) := by decide +kernel
theorem g_190_7 : zFl.lookup (zky (zown 190) 7) = some (10, 0) := by decide +kernel
theorem g_191_7 : zFl.lookup (zky (zown 191) 7) = some (10, 0) := by decide +kernel
theorem g_191_34 : zFl.lookup (zky (zown 191) 34) = some (10, 14) := by decide +kernel
theorem g_191_164 : zFl.lookup (zky (zown 191) 164) = some (10, 15) := by decide +kernel
theorem g_192_31 : zFl.lookup (zky (zown 192) 31) = some (10, 12) := by decide +kernel
theorem g_192_34 : zFl.lookup (zky (zown 192) 34) = some (10, 14) := by decide +kernel
theorem g_192_164 : zFl.lookup (zky (zown 192) 164) = some (10, 15) := by decide +kernel
theorem g_192_167 : zFl.lookup (zky (zown 192) 167) = some (10, 13) := by decide +kernel
theorem g_193_7 : zFl.lookup (zky (zown 193) 7) = some (10, 0) := by decide +kernel
theorem g_193_34 : zFl.lookup (zky (zown 193) 34) = some (10, 14) := by decide +kernel
theorem g_193_164 : zFl.lookup (zky (zown 193) 164) = some (10, 15) := by decide +kernel
theorem g_193_167 : zFl.lookup (zky (zown 193) 167) = some (10, 13) := by decide +kernel
theorem g_195_7 : zFl.lookup (zky (zown 195) 7) = some (10, 0) := by decide +kernel
theorem g_195_28 : zFl.lookup (zky (zown 195) 28) = some (10, 11) := by decide +kernel
theorem g_196_7 : zFl.lookup (zky (zown 196) 7) = some (10, 0) := by decide +kernel
theorem g_197_7 : zFl.lookup (zky (zown 197) 7) = some (10, 0) := by decide +kernel
theorem g_197_34 : zFl.lookup (zky (zown 197) 34) = some (10, 14) := by decide +kernel
theorem g_198_7 : zFl.lookup (zky (zown 198) 7) = some (10, 0) := by decide +kernel
theorem g_199_38 : zFl.lookup (zky (zown 199) 38) = some (10, 16) := by decide +kernel
theorem g_199_189 : zFl.lookup (zky (zown 199) 189) = some (10, 17) := by decide +kernel
theorem g_200_38 : zFl.lookup (zky (zown 200) 38) = some (10, 16) := by decide +kernel
theorem g_200_189 : zFl.lookup (zky (zown 200) 189) = some (10, 17) := by decide +kernel
theorem g_200_192 : zFl.lookup (zky (zown 200) 192) = some (10, 19) := by decide +kernel
theorem g_202_38 : zFl.lookup (zky (zown 202) 38) = some (10, 16) := by decide +kernel
theorem g_202_46 : zFl.lookup (zky (zown 202) 46) = some (10, 21) := by decide +kernel
theorem g_202_189 : zFl.lookup (zky (zown 202) 189) = some (10, 17) := by decide +kernel
theorem g_202_192 : zFl.lookup (zky (zown 202) 192) = some (10, 19) := by decide +kernel
theorem g_203_38 : zFl.lookup (zky (zown 203) 38) = some (10, 16) := by decide +kernel
theorem g_203_189 : zFl.lookup (zky (zown 203) 189) = some (10, 17) := by decide +kernel
theorem g_203_192 : zFl.lookup (zky (zown 203) 192) = some (10, 19) := by decide +kernel
theorem g_203_195 : zFl.lookup (zky (zown 203) 195) = some (10, 20) := by decide +kernel
theorem g_204_46 : zFl.lookup (zky (zown 204) 46) = some (10, 21) := by decide +kernel
theorem g_204_195 : zFl.lookup (zky (zown 204) 195) = some (10, 20) := by decide +kernel
theorem g_205_7 : zFl.lookup (zky (zown 205) 7) = some (10, 0) := by decide +kernel
theorem g_205_19 : zFl.lookup (zky (zown 205) 19) = some (10, 5) := by decide +kernel
theorem g_205_42 : zFl.lookup (zky (zown 205) 42) = some (10, 18) := by decide +kernel
theorem g_205_189 : zFl.lookup (zky (zown 205) 189) = some (10, 17) := by decide +kernel
theorem g_205_192 : zFl.lookup (zky (zown 205) 192) = some (10, 19) := by decide +kernel
theorem g_206_42 : zFl.lookup (zky (zown 206) 42) = some (10, 18) := by decide +kernel
theorem g_207_7 : zFl.lookup (zky (zown 207) 7) = some (10, 0) := by decide +kernel
theorem g_207_13 : zFl.lookup (zky (zown 207) 13) = some (10, 1) := by decide +kernel
theorem g_207_76 : zFl.lookup (zky (zown 207) 76) = some (10, 2) := by decide +kernel
theorem g_211_7 : zFl.lookup (zky (zown 211) 7) = some (10, 0) := by decide +kernel
theorem g_214_7 : zFl.lookup (zky (zown 214) 7) = some (10, 0) := by decide +kernel
theorem g_216_49 : zFl.lookup (zky (zown 216) 49) = some (10, 22) := by decide +kernel
theorem g_217_49 : zFl.lookup (zky (zown 217) 49) = some (10, 22) := by decide +kernel
theorem g_217_52 : zFl.lookup (zky (zown 217) 52) = some (10, 23) := by decide +kernel
theorem g_218_7 : zFl.lookup (zky (zown 218) 7) = some (10, 0) := by decide +kernel
theorem g_218_28 : zFl.lookup (zky (zown 218) 28) = some (10, 11) := by decide +kernel
theorem g_219_7 : zFl.lookup (zky (zown 219) 7) = some (10, 0) := by decide +kernel
theorem g_219_189 : zFl.lookup (zky (zown 219) 189) = some (10, 17) := by decide +kernel
theorem g_223_7 : zFl.lookup (zky (zown 223) 7) = some (10, 0) := by decide +kernel
theorem g_226_167 : zFl.lookup (zky (zown 226) 167) = some (10, 13) := by decide +kernel
theorem g_227_31 : zFl.lookup (zky (zown 227) 31) = some (10, 12) := by decide +kernel
theorem g_227_167 : zFl.lookup (zky (zown 227) 167) = some (10, 13) := by decide +kernel
theorem g_228_31 : zFl.lookup (zky (zown 228) 31) = some (10, 12) := by decide +kernel
theorem g_228_167 : zFl.lookup (zky (zown 228) 167) = some (10, 13) := by decide +kernel
theorem g_229_7 : zFl.lookup (zky (zown 229) 7) = some (10, 0) := by decide +kernel
theorem g_229_167 : zFl.lookup (zky (zown 229) 167) = some (10, 13) := by decide +kernel
theorem g_230_164 : zFl.lookup (zky (zown 230) 164) = some (10, 15) := by decide +kernel
theorem g_231_34 : zFl.lookup (zky (zown 231) 34) = some (10, 14) := by decide +kernel
theorem g_232_34 : zFl.lookup (zky (zown 232) 34) = some (10, 14) := by decide +kernel
theorem g_236_7 : zFl.lookup (zky (zown 236) 7) = some (10, 0) := by decide +kernel
theorem g_237_7 : zFl.lookup (zky (zown 237) 7) = some (10, 0) := by decide +kernel
theorem g_237_55 : zFl.lookup (zky (zown 237) 55) = some (10, 24) := by decide +kernel
theorem g_238_55 : zFl.lookup (zky (zown 238) 55) = some (10, 24) := by decide +kernel
theorem g_239_55 : zFl.lookup (zky (zown 239) 55) = some (10, 24) := by decide +kernel
theorem g_240_7 : zFl.lookup (zky (zown 240) 7) = some (10, 0) := by decide +kernel
theorem g_240_55 : zFl.lookup (zky (zown 240) 55) = some (10, 24) := by decide +kernel
theorem g_241_31 : zFl.lookup (zky (zown 241) 31) = some (10, 12) := by decide +kernel
theorem g_241_167 : zFl.lookup (zky (zown 241) 167) = some (10, 13) := by decide +kernel
theorem g_242_31 : zFl.lookup (zky (zown 242) 31) = some (10, 12) := by decide +kernel
theorem g_242_167 : zFl.lookup (zky (zown 242) 167) = some (10, 13) := by decide +kernel
theorem g_243_28 : zFl.lookup (zky (zown 243) 28) = some (10, 11) := by decide +kernel
theorem g_243_31 : zFl.lookup (zky (zown 243) 31) = some (10, 12) := by decide +kernel
theorem g_243_167 : zFl.lookup (zky (zown 243) 167) = some (10, 13) := by decide +kernel
theorem g_244_7 : zFl.lookup (zky (zown 244) 7) = some (10, 0) := by decide +kernel
theorem g_245_7 : zFl.lookup (zky (zown 245) 7) = some (10, 0) := by decide +kernel
theorem g_245_16 : zFl.lookup (zky (zown 245) 16) = some (10, 3) := by decide +kernel
theorem g_245_268 : zFl.lookup (zky (zown 245) 268) = some (10, 4) := by decide +kernel
theorem g_246_7 : zFl.lookup (zky (zown 246) 7) = some (10, 0) := by decide +kernel
theorem g_246_16 : zFl.lookup (zky (zown 246) 16) = some (10, 3) := by decide +kernel
theorem g_246_76 : zFl.lookup (zky (zown 246) 76) = some (10, 2) := by decide +kernel
theorem g_246_268 : zFl.lookup (zky (zown 246) 268) = some (10, 4) := by decide +kernel
theorem k_2_70 : zKi.lookup (zky (zown 2) 70) = some 1103515245 := by decide +kernel
theorem k_181_130 : zKi.lookup (zky (zown 181) 130) = some 1103515245 := by decide +kernel
theorem k_249_265 : zKi.lookup (zky (zown 249) 265) = some 1431655765 := by decide +kernel
theorem k_249_266 : zKi.lookup (zky (zown 249) 266) = some 858993459 := by decide +kernel
theorem k_249_267 : zKi.lookup (zky (zown 249) 267) = some 252645135 := by decide +kernel
theorem m_0_3 : zMl.lookup (zky (zown 0) 3) = some (0, 6) := by decide +kernel
theorem c_1_49 : zcal (zown 1) (.invokevirtual 49) = some (14, 0) := by decide +kernel
theorem c_1_54 : zcal (zown 1) (.invokevirtual 54) = some (3, 0) := by decide +kernel
theorem c_1_58 : zcal (zown 1) (.invokestatic 58) = some (4, 1) := by decide +kernel
theorem c_1_62 : zcal (zown 1) (.invokevirtual 62) = some (8, 0) := by decide +kernel
theorem c_1_66 : zcal (zown 1) (.invokevirtual 66) = some (9, 0) := by decide +kernel
theorem c_4_58 : zcal (zown 4) (.invokestatic 58) = some (4, 1) := by decide +kernel
theorem c_4_71 : zcal (zown 4) (.invokevirtual 71) = some (7, 0) := by decide +kernel
theorem c_4_75 : zcal (zown 4) (.invokevirtual 75) = some (5, 0) := by decide +kernel
theorem c_4_79 : zcal (zown 4) (.invokevirtual 79) = some (6, 0) := by decide +kernel
theorem c_7_54 : zcal (zown 7) (.invokevirtual 54) = some (3, 0) := by decide +kernel
theorem c_7_82 : zcal (zown 7) (.invokevirtual 82) = some (2, 0) := by decide +kernel
theorem c_8_82 : zcal (zown 8) (.invokevirtual 82) = some (2, 0) := by decide +kernel
theorem m_8_85 : zMl.lookup (zky (zown 8) 85) = some (0, 10) := by decide +kernel
theorem c_8_91 : zcal (zown 8) (.invokevirtual 91) = some (17, 0) := by decide +kernel
theorem c_9_94 : zcal (zown 9) (.invokevirtual 94) = some (34, 0) := by decide +kernel
theorem c_9_97 : zcal (zown 9) (.invokevirtual 97) = some (20, 0) := by decide +kernel
theorem m_10_3 : zMl.lookup (zky (zown 10) 3) = some (0, 6) := by decide +kernel
theorem c_11_49 : zcal (zown 11) (.invokevirtual 49) = some (12, 0) := by decide +kernel
theorem c_11_53 : zcal (zown 11) (.invokevirtual 53) = some (13, 0) := by decide +kernel
theorem c_17_56 : zcal (zown 17) (.invokestatic 56) = some (18, 1) := by decide +kernel
theorem c_17_60 : zcal (zown 17) (.invokevirtual 60) = some (19, 0) := by decide +kernel
theorem c_20_63 : zcal (zown 20) (.invokevirtual 63) = some (15, 0) := by decide +kernel
theorem c_20_67 : zcal (zown 20) (.invokevirtual 67) = some (30, 0) := by decide +kernel
theorem m_20_71 : zMl.lookup (zky (zown 20) 71) = some (0, 10) := by decide +kernel
theorem m_20_76 : zMl.lookup (zky (zown 20) 76) = some (0, 9) := by decide +kernel
theorem c_21_67 : zcal (zown 21) (.invokevirtual 67) = some (30, 0) := by decide +kernel
theorem c_21_79 : zcal (zown 21) (.invokevirtual 79) = some (34, 0) := by decide +kernel
theorem c_21_82 : zcal (zown 21) (.invokevirtual 82) = some (20, 0) := by decide +kernel
theorem c_22_85 : zcal (zown 22) (.invokevirtual 85) = some (16, 0) := by decide +kernel
theorem c_22_88 : zcal (zown 22) (.invokestatic 88) = some (148, 4) := by decide +kernel
theorem c_22_91 : zcal (zown 22) (.invokestatic 91) = some (147, 4) := by decide +kernel
theorem c_23_63 : zcal (zown 23) (.invokevirtual 63) = some (15, 0) := by decide +kernel
theorem c_23_88 : zcal (zown 23) (.invokestatic 88) = some (148, 4) := by decide +kernel
theorem c_23_91 : zcal (zown 23) (.invokestatic 91) = some (147, 4) := by decide +kernel
theorem c_24_63 : zcal (zown 24) (.invokevirtual 63) = some (15, 0) := by decide +kernel
theorem c_25_49 : zcal (zown 25) (.invokevirtual 49) = some (12, 0) := by decide +kernel
theorem c_25_63 : zcal (zown 25) (.invokevirtual 63) = some (15, 0) := by decide +kernel
theorem c_25_95 : zcal (zown 25) (.invokevirtual 95) = some (26, 0) := by decide +kernel
theorem c_25_99 : zcal (zown 25) (.invokestatic 99) = some (27, 1) := by decide +kernel
theorem c_26_53 : zcal (zown 26) (.invokevirtual 53) = some (13, 0) := by decide +kernel
theorem c_26_102 : zcal (zown 26) (.invokevirtual 102) = some (29, 0) := by decide +kernel
theorem c_28_53 : zcal (zown 28) (.invokevirtual 53) = some (13, 0) := by decide +kernel
theorem c_28_85 : zcal (zown 28) (.invokevirtual 85) = some (16, 0) := by decide +kernel
theorem c_30_102 : zcal (zown 30) (.invokevirtual 102) = some (29, 0) := by decide +kernel
theorem c_31_102 : zcal (zown 31) (.invokevirtual 102) = some (29, 0) := by decide +kernel
theorem c_34_106 : zcal (zown 34) (.invokevirtual 106) = some (32, 0) := by decide +kernel
theorem m_34_109 : zMl.lookup (zky (zown 34) 109) = some (0, 8) := by decide +kernel
theorem c_34_112 : zcal (zown 34) (.invokevirtual 112) = some (33, 0) := by decide +kernel
theorem c_35_115 : zcal (zown 35) (.invokestatic 115) = some (149, 4) := by decide +kernel
theorem c_40_118 : zcal (zown 40) (.invokevirtual 118) = some (39, 0) := by decide +kernel
theorem c_41_121 : zcal (zown 41) (.invokevirtual 121) = some (31, 0) := by decide +kernel
theorem m_42_3 : zMl.lookup (zky (zown 42) 3) = some (0, 6) := by decide +kernel
theorem c_43_33 : zcal (zown 43) (.invokestatic 33) = some (82, 1) := by decide +kernel
theorem c_43_42 : zcal (zown 43) (.invokestatic 42) = some (44, 1) := by decide +kernel
theorem c_43_46 : zcal (zown 43) (.invokevirtual 46) = some (45, 0) := by decide +kernel
theorem c_44_53 : zcal (zown 44) (.invokevirtual 53) = some (39, 0) := by decide +kernel
theorem c_44_57 : zcal (zown 44) (.invokevirtual 57) = some (31, 0) := by decide +kernel
theorem c_45_60 : zcal (zown 45) (.invokestatic 60) = some (46, 1) := by decide +kernel
theorem c_45_63 : zcal (zown 45) (.invokestatic 63) = some (149, 4) := by decide +kernel
theorem c_46_67 : zcal (zown 46) (.invokestatic 67) = some (78, 1) := by decide +kernel
theorem c_46_79 : zcal (zown 46) (.invokevirtual 79) = some (35, 0) := by decide +kernel
theorem c_50_33 : zcal (zown 50) (.invokestatic 33) = some (82, 1) := by decide +kernel
theorem m_51_3 : zMl.lookup (zky (zown 51) 3) = some (0, 6) := by decide +kernel
theorem c_52_31 : zcal (zown 52) (.invokestatic 31) = some (254, 1) := by decide +kernel
theorem c_52_42 : zcal (zown 52) (.invokevirtual 42) = some (53, 0) := by decide +kernel
theorem c_52_49 : zcal (zown 52) (.invokevirtual 49) = some (54, 0) := by decide +kernel
theorem c_53_64 : zcal (zown 53) (.invokestatic 64) = some (150, 4) := by decide +kernel
theorem c_54_74 : zcal (zown 54) (.invokevirtual 74) = some (34, 0) := by decide +kernel
theorem c_54_77 : zcal (zown 54) (.invokestatic 77) = some (55, 1) := by decide +kernel
theorem c_55_64 : zcal (zown 55) (.invokestatic 64) = some (150, 4) := by decide +kernel
theorem c_55_84 : zcal (zown 55) (.invokevirtual 84) = some (32, 0) := by decide +kernel
theorem c_55_88 : zcal (zown 55) (.invokevirtual 88) = some (33, 0) := by decide +kernel
theorem m_55_91 : zMl.lookup (zky (zown 55) 91) = some (0, 8) := by decide +kernel
theorem m_55_96 : zMl.lookup (zky (zown 55) 96) = some (0, 10) := by decide +kernel
theorem m_55_99 : zMl.lookup (zky (zown 55) 99) = some (0, 9) := by decide +kernel
theorem c_55_102 : zcal (zown 55) (.invokestatic 102) = some (250, 1) := by decide +kernel
theorem c_56_74 : zcal (zown 56) (.invokevirtual 74) = some (34, 0) := by decide +kernel
theorem c_56_77 : zcal (zown 56) (.invokestatic 77) = some (55, 1) := by decide +kernel
theorem c_60_107 : zcal (zown 60) (.invokestatic 107) = some (61, 1) := by decide +kernel
theorem c_61_64 : zcal (zown 61) (.invokestatic 64) = some (150, 4) := by decide +kernel
theorem c_61_84 : zcal (zown 61) (.invokevirtual 84) = some (32, 0) := by decide +kernel
theorem c_61_88 : zcal (zown 61) (.invokevirtual 88) = some (33, 0) := by decide +kernel
theorem c_62_31 : zcal (zown 62) (.invokestatic 31) = some (254, 1) := by decide +kernel
theorem c_62_64 : zcal (zown 62) (.invokestatic 64) = some (150, 4) := by decide +kernel
theorem c_62_116 : zcal (zown 62) (.invokevirtual 116) = some (63, 0) := by decide +kernel
theorem c_63_120 : zcal (zown 63) (.invokevirtual 120) = some (58, 0) := by decide +kernel
theorem m_64_5 : zMl.lookup (zky (zown 64) 5) = some (0, 6) := by decide +kernel
theorem c_64_24 : zcal (zown 64) (.invokespecial 24) = some (10, 5) := by decide +kernel
theorem c_65_25 : zcal (zown 65) (.invokevirtual 25) = some (11, 0) := by decide +kernel
theorem m_66_29 : zMl.lookup (zky (zown 66) 29) = some (0, 10) := by decide +kernel
theorem c_67_25 : zcal (zown 67) (.invokevirtual 25) = some (11, 0) := by decide +kernel
theorem c_68_25 : zcal (zown 68) (.invokevirtual 25) = some (11, 0) := by decide +kernel
theorem m_70_3 : zMl.lookup (zky (zown 70) 3) = some (0, 6) := by decide +kernel
theorem c_71_15 : zcal (zown 71) (.invokestatic 15) = some (72, 1) := by decide +kernel
theorem c_71_19 : zcal (zown 71) (.invokestatic 19) = some (73, 1) := by decide +kernel
theorem c_71_22 : zcal (zown 71) (.invokevirtual 22) = some (74, 0) := by decide +kernel
theorem c_72_38 : zcal (zown 72) (.invokestatic 38) = some (79, 1) := by decide +kernel
theorem c_72_43 : zcal (zown 72) (.invokestatic 43) = some (249, 1) := by decide +kernel
theorem m_72_52 : zMl.lookup (zky (zown 72) 52) = some (0, 8) := by decide +kernel
theorem c_73_57 : zcal (zown 73) (.invokevirtual 57) = some (36, 0) := by decide +kernel
theorem c_73_60 : zcal (zown 73) (.invokestatic 60) = some (149, 4) := by decide +kernel
theorem c_74_60 : zcal (zown 74) (.invokestatic 60) = some (149, 4) := by decide +kernel
theorem c_74_64 : zcal (zown 74) (.invokestatic 64) = some (77, 1) := by decide +kernel
theorem c_74_67 : zcal (zown 74) (.invokestatic 67) = some (75, 1) := by decide +kernel
theorem c_74_74 : zcal (zown 74) (.invokestatic 74) = some (82, 1) := by decide +kernel
theorem c_75_15 : zcal (zown 75) (.invokestatic 15) = some (78, 1) := by decide +kernel
theorem c_75_31 : zcal (zown 75) (.invokevirtual 31) = some (35, 0) := by decide +kernel
theorem c_76_35 : zcal (zown 76) (.invokestatic 35) = some (77, 1) := by decide +kernel
theorem c_76_39 : zcal (zown 76) (.invokestatic 39) = some (75, 1) := by decide +kernel
theorem c_78_46 : zcal (zown 78) (.invokestatic 46) = some (149, 4) := by decide +kernel
theorem c_78_49 : zcal (zown 78) (.invokevirtual 49) = some (36, 0) := by decide +kernel
theorem c_79_35 : zcal (zown 79) (.invokestatic 35) = some (77, 1) := by decide +kernel
theorem c_79_39 : zcal (zown 79) (.invokestatic 39) = some (75, 1) := by decide +kernel
theorem c_80_39 : zcal (zown 80) (.invokestatic 39) = some (75, 1) := by decide +kernel
theorem c_80_46 : zcal (zown 80) (.invokestatic 46) = some (149, 4) := by decide +kernel
theorem c_81_53 : zcal (zown 81) (.invokestatic 53) = some (80, 1) := by decide +kernel
theorem c_82_56 : zcal (zown 82) (.invokestatic 56) = some (254, 1) := by decide +kernel
theorem c_82_62 : zcal (zown 82) (.invokevirtual 62) = some (15, 0) := by decide +kernel
theorem c_82_66 : zcal (zown 82) (.invokestatic 66) = some (83, 1) := by decide +kernel
theorem m_84_3 : zMl.lookup (zky (zown 84) 3) = some (0, 6) := by decide +kernel
theorem c_85_39 : zcal (zown 85) (.invokevirtual 39) = some (86, 0) := by decide +kernel
theorem c_87_43 : zcal (zown 87) (.invokevirtual 43) = some (88, 0) := by decide +kernel
theorem c_88_47 : zcal (zown 88) (.invokevirtual 47) = some (92, 0) := by decide +kernel
theorem c_88_51 : zcal (zown 88) (.invokevirtual 51) = some (89, 0) := by decide +kernel
theorem c_89_47 : zcal (zown 89) (.invokevirtual 47) = some (92, 0) := by decide +kernel
theorem c_89_54 : zcal (zown 89) (.invokevirtual 54) = some (93, 0) := by decide +kernel
theorem c_89_58 : zcal (zown 89) (.invokestatic 58) = some (90, 1) := by decide +kernel
theorem c_89_61 : zcal (zown 89) (.invokestatic 61) = some (94, 1) := by decide +kernel
theorem c_89_64 : zcal (zown 89) (.invokevirtual 64) = some (91, 0) := by decide +kernel
theorem c_91_54 : zcal (zown 91) (.invokevirtual 54) = some (93, 0) := by decide +kernel
theorem c_91_61 : zcal (zown 91) (.invokestatic 61) = some (94, 1) := by decide +kernel
theorem c_92_54 : zcal (zown 92) (.invokevirtual 54) = some (93, 0) := by decide +kernel
theorem c_95_68 : zcal (zown 95) (.invokestatic 68) = some (96, 1) := by decide +kernel
theorem c_96_72 : zcal (zown 96) (.invokevirtual 72) = some (17, 0) := by decide +kernel
theorem c_96_78 : zcal (zown 96) (.invokevirtual 78) = some (20, 0) := by decide +kernel
theorem c_96_82 : zcal (zown 96) (.invokevirtual 82) = some (22, 0) := by decide +kernel
theorem c_96_85 : zcal (zown 96) (.invokevirtual 85) = some (23, 0) := by decide +kernel
theorem c_96_88 : zcal (zown 96) (.invokevirtual 88) = some (24, 0) := by decide +kernel
theorem m_97_5 : zMl.lookup (zky (zown 97) 5) = some (0, 6) := by decide +kernel
theorem c_98_34 : zcal (zown 98) (.invokestatic 34) = some (254, 1) := by decide +kernel
theorem c_98_47 : zcal (zown 98) (.invokevirtual 47) = some (100, 0) := by decide +kernel
theorem c_98_51 : zcal (zown 98) (.invokevirtual 51) = some (99, 0) := by decide +kernel
theorem c_99_47 : zcal (zown 99) (.invokevirtual 47) = some (100, 0) := by decide +kernel
theorem c_99_55 : zcal (zown 99) (.invokevirtual 55) = some (30, 0) := by decide +kernel
theorem c_99_59 : zcal (zown 99) (.invokevirtual 59) = some (35, 0) := by decide +kernel
theorem c_100_63 : zcal (zown 100) (.invokevirtual 63) = some (36, 0) := by decide +kernel
theorem c_102_67 : zcal (zown 102) (.invokevirtual 67) = some (101, 0) := by decide +kernel
theorem m_103_3 : zMl.lookup (zky (zown 103) 3) = some (0, 6) := by decide +kernel
theorem c_103_11 : zcal (zown 103) (.invokespecial 11) = some (10, 5) := by decide +kernel
theorem c_103_21 : zcal (zown 103) (.invokespecial 21) = some (64, 2) := by decide +kernel
theorem c_103_28 : zcal (zown 103) (.invokespecial 28) = some (84, 5) := by decide +kernel
theorem c_103_35 : zcal (zown 103) (.invokespecial 35) = some (0, 5) := by decide +kernel
theorem c_103_42 : zcal (zown 103) (.invokespecial 42) = some (70, 5) := by decide +kernel
theorem c_103_49 : zcal (zown 103) (.invokespecial 49) = some (42, 5) := by decide +kernel
theorem c_103_56 : zcal (zown 103) (.invokespecial 56) = some (97, 5) := by decide +kernel
theorem c_103_63 : zcal (zown 103) (.invokespecial 63) = some (51, 5) := by decide +kernel
theorem c_104_72 : zcal (zown 104) (.invokevirtual 72) = some (65, 0) := by decide +kernel
theorem c_104_76 : zcal (zown 104) (.invokevirtual 76) = some (17, 0) := by decide +kernel
theorem c_104_80 : zcal (zown 104) (.invokevirtual 80) = some (145, 0) := by decide +kernel
theorem c_105_72 : zcal (zown 105) (.invokevirtual 72) = some (65, 0) := by decide +kernel
theorem c_105_80 : zcal (zown 105) (.invokevirtual 80) = some (145, 0) := by decide +kernel
theorem c_105_84 : zcal (zown 105) (.invokevirtual 84) = some (20, 0) := by decide +kernel
theorem c_106_72 : zcal (zown 106) (.invokevirtual 72) = some (65, 0) := by decide +kernel
theorem c_106_88 : zcal (zown 106) (.invokevirtual 88) = some (22, 0) := by decide +kernel
theorem c_106_91 : zcal (zown 106) (.invokevirtual 91) = some (146, 0) := by decide +kernel
theorem c_107_72 : zcal (zown 107) (.invokevirtual 72) = some (65, 0) := by decide +kernel
theorem c_107_91 : zcal (zown 107) (.invokevirtual 91) = some (146, 0) := by decide +kernel
theorem c_107_94 : zcal (zown 107) (.invokevirtual 94) = some (23, 0) := by decide +kernel
theorem c_108_72 : zcal (zown 108) (.invokevirtual 72) = some (65, 0) := by decide +kernel
theorem c_108_80 : zcal (zown 108) (.invokevirtual 80) = some (145, 0) := by decide +kernel
theorem c_108_97 : zcal (zown 108) (.invokevirtual 97) = some (24, 0) := by decide +kernel
theorem c_109_72 : zcal (zown 109) (.invokevirtual 72) = some (65, 0) := by decide +kernel
theorem c_109_80 : zcal (zown 109) (.invokevirtual 80) = some (145, 0) := by decide +kernel
theorem c_109_100 : zcal (zown 109) (.invokevirtual 100) = some (25, 0) := by decide +kernel
theorem c_110_72 : zcal (zown 110) (.invokevirtual 72) = some (65, 0) := by decide +kernel
theorem c_110_80 : zcal (zown 110) (.invokevirtual 80) = some (145, 0) := by decide +kernel
theorem c_110_103 : zcal (zown 110) (.invokevirtual 103) = some (28, 0) := by decide +kernel
theorem c_111_72 : zcal (zown 111) (.invokevirtual 72) = some (65, 0) := by decide +kernel
theorem c_111_80 : zcal (zown 111) (.invokevirtual 80) = some (145, 0) := by decide +kernel
theorem c_111_106 : zcal (zown 111) (.invokevirtual 106) = some (1, 0) := by decide +kernel
theorem c_112_72 : zcal (zown 112) (.invokevirtual 72) = some (65, 0) := by decide +kernel
theorem c_112_80 : zcal (zown 112) (.invokevirtual 80) = some (145, 0) := by decide +kernel
theorem c_112_114 : zcal (zown 112) (.invokevirtual 114) = some (21, 0) := by decide +kernel
theorem c_113_72 : zcal (zown 113) (.invokevirtual 72) = some (65, 0) := by decide +kernel
theorem c_113_80 : zcal (zown 113) (.invokevirtual 80) = some (145, 0) := by decide +kernel
theorem c_113_118 : zcal (zown 113) (.invokevirtual 118) = some (71, 0) := by decide +kernel
theorem c_114_72 : zcal (zown 114) (.invokevirtual 72) = some (65, 0) := by decide +kernel
theorem c_114_80 : zcal (zown 114) (.invokevirtual 80) = some (145, 0) := by decide +kernel
theorem c_115_125 : zcal (zown 115) (.invokevirtual 125) = some (85, 0) := by decide +kernel
theorem c_116_72 : zcal (zown 116) (.invokevirtual 72) = some (65, 0) := by decide +kernel
theorem c_116_80 : zcal (zown 116) (.invokevirtual 80) = some (145, 0) := by decide +kernel
theorem c_116_128 : zcal (zown 116) (.invokevirtual 128) = some (87, 0) := by decide +kernel
theorem c_116_132 : zcal (zown 116) (.invokevirtual 132) = some (95, 0) := by decide +kernel
theorem c_116_136 : zcal (zown 116) (.invokevirtual 136) = some (67, 0) := by decide +kernel
theorem c_118_145 : zcal (zown 118) (.invokevirtual 145) = some (68, 0) := by decide +kernel
theorem c_119_151 : zcal (zown 119) (.invokevirtual 151) = some (37, 0) := by decide +kernel
theorem c_119_154 : zcal (zown 119) (.invokevirtual 154) = some (38, 0) := by decide +kernel
theorem c_119_157 : zcal (zown 119) (.invokevirtual 157) = some (40, 0) := by decide +kernel
theorem c_119_160 : zcal (zown 119) (.invokevirtual 160) = some (52, 0) := by decide +kernel
theorem c_119_163 : zcal (zown 119) (.invokevirtual 163) = some (57, 0) := by decide +kernel
theorem c_119_166 : zcal (zown 119) (.invokevirtual 166) = some (41, 0) := by decide +kernel
theorem c_119_169 : zcal (zown 119) (.invokestatic 169) = some (80, 1) := by decide +kernel
theorem c_119_175 : zcal (zown 119) (.invokestatic 175) = some (81, 1) := by decide +kernel
theorem c_120_181 : zcal (zown 120) (.invokevirtual 181) = some (15, 0) := by decide +kernel
theorem c_120_201 : zcal (zown 120) (.invokestatic 201) = some (147, 1) := by decide +kernel
theorem c_120_204 : zcal (zown 120) (.invokevirtual 204) = some (31, 0) := by decide +kernel
theorem c_120_207 : zcal (zown 120) (.invokevirtual 207) = some (32, 0) := by decide +kernel
theorem c_120_210 : zcal (zown 120) (.invokevirtual 210) = some (33, 0) := by decide +kernel
theorem c_121_160 : zcal (zown 121) (.invokevirtual 160) = some (52, 0) := by decide +kernel
theorem c_121_201 : zcal (zown 121) (.invokestatic 201) = some (147, 1) := by decide +kernel
theorem c_121_213 : zcal (zown 121) (.invokevirtual 213) = some (16, 0) := by decide +kernel
theorem c_121_225 : zcal (zown 121) (.invokevirtual 225) = some (56, 0) := by decide +kernel
theorem c_122_181 : zcal (zown 122) (.invokevirtual 181) = some (15, 0) := by decide +kernel
theorem c_122_228 : zcal (zown 122) (.invokevirtual 228) = some (30, 0) := by decide +kernel
theorem c_124_160 : zcal (zown 124) (.invokevirtual 160) = some (52, 0) := by decide +kernel
theorem c_124_234 : zcal (zown 124) (.invokestatic 234) = some (150, 1) := by decide +kernel
theorem c_124_237 : zcal (zown 124) (.invokevirtual 237) = some (59, 0) := by decide +kernel
theorem c_125_160 : zcal (zown 125) (.invokevirtual 160) = some (52, 0) := by decide +kernel
theorem c_125_234 : zcal (zown 125) (.invokestatic 234) = some (150, 1) := by decide +kernel
theorem c_125_240 : zcal (zown 125) (.invokevirtual 240) = some (60, 0) := by decide +kernel
theorem c_126_160 : zcal (zown 126) (.invokevirtual 160) = some (52, 0) := by decide +kernel
theorem c_126_234 : zcal (zown 126) (.invokestatic 234) = some (150, 1) := by decide +kernel
theorem c_126_243 : zcal (zown 126) (.invokevirtual 243) = some (58, 0) := by decide +kernel
theorem c_126_246 : zcal (zown 126) (.invokevirtual 246) = some (62, 0) := by decide +kernel
theorem c_127_181 : zcal (zown 127) (.invokevirtual 181) = some (15, 0) := by decide +kernel
theorem c_127_249 : zcal (zown 127) (.invokevirtual 249) = some (43, 0) := by decide +kernel
theorem c_128_181 : zcal (zown 128) (.invokevirtual 181) = some (15, 0) := by decide +kernel
theorem c_128_249 : zcal (zown 128) (.invokevirtual 249) = some (43, 0) := by decide +kernel
theorem c_129_249 : zcal (zown 129) (.invokevirtual 249) = some (43, 0) := by decide +kernel
theorem c_130_249 : zcal (zown 130) (.invokevirtual 249) = some (43, 0) := by decide +kernel
theorem c_130_261 : zcal (zown 130) (.invokevirtual 261) = some (47, 0) := by decide +kernel
theorem c_131_181 : zcal (zown 131) (.invokevirtual 181) = some (15, 0) := by decide +kernel
theorem c_131_249 : zcal (zown 131) (.invokevirtual 249) = some (43, 0) := by decide +kernel
theorem c_131_267 : zcal (zown 131) (.invokevirtual 267) = some (48, 0) := by decide +kernel
theorem c_132_249 : zcal (zown 132) (.invokevirtual 249) = some (43, 0) := by decide +kernel
theorem c_133_270 : zcal (zown 133) (.invokestatic 270) = some (76, 1) := by decide +kernel
theorem c_133_274 : zcal (zown 133) (.invokestatic 274) = some (78, 1) := by decide +kernel
theorem c_134_181 : zcal (zown 134) (.invokevirtual 181) = some (15, 0) := by decide +kernel
theorem c_134_270 : zcal (zown 134) (.invokestatic 270) = some (76, 1) := by decide +kernel
theorem c_134_277 : zcal (zown 134) (.invokestatic 277) = some (149, 1) := by decide +kernel
theorem c_135_181 : zcal (zown 135) (.invokevirtual 181) = some (15, 0) := by decide +kernel
theorem c_135_270 : zcal (zown 135) (.invokestatic 270) = some (76, 1) := by decide +kernel
theorem c_135_277 : zcal (zown 135) (.invokestatic 277) = some (149, 1) := by decide +kernel
theorem c_136_181 : zcal (zown 136) (.invokevirtual 181) = some (15, 0) := by decide +kernel
theorem c_136_281 : zcal (zown 136) (.invokevirtual 281) = some (98, 0) := by decide +kernel
theorem c_136_284 : zcal (zown 136) (.invokevirtual 284) = some (101, 0) := by decide +kernel
theorem c_137_181 : zcal (zown 137) (.invokevirtual 181) = some (15, 0) := by decide +kernel
theorem c_137_281 : zcal (zown 137) (.invokevirtual 281) = some (98, 0) := by decide +kernel
theorem c_137_284 : zcal (zown 137) (.invokevirtual 284) = some (101, 0) := by decide +kernel
theorem c_137_287 : zcal (zown 137) (.invokevirtual 287) = some (102, 0) := by decide +kernel
theorem c_138_281 : zcal (zown 138) (.invokevirtual 281) = some (98, 0) := by decide +kernel
theorem c_138_284 : zcal (zown 138) (.invokevirtual 284) = some (101, 0) := by decide +kernel
theorem m_138_290 : zMl.lookup (zky (zown 138) 290) = some (0, 9) := by decide +kernel
theorem c_139_249 : zcal (zown 139) (.invokevirtual 249) = some (43, 0) := by decide +kernel
theorem c_139_261 : zcal (zown 139) (.invokevirtual 261) = some (47, 0) := by decide +kernel
theorem c_139_295 : zcal (zown 139) (.invokevirtual 295) = some (49, 0) := by decide +kernel
theorem c_140_249 : zcal (zown 140) (.invokevirtual 249) = some (43, 0) := by decide +kernel
theorem c_140_295 : zcal (zown 140) (.invokevirtual 295) = some (49, 0) := by decide +kernel
theorem c_141_249 : zcal (zown 141) (.invokevirtual 249) = some (43, 0) := by decide +kernel
theorem c_141_298 : zcal (zown 141) (.invokevirtual 298) = some (50, 0) := by decide +kernel
theorem c_142_249 : zcal (zown 142) (.invokevirtual 249) = some (43, 0) := by decide +kernel
theorem c_142_305 : zcal (zown 142) (.invokestatic 305) = some (151, 1) := by decide +kernel
theorem c_143_309 : zcal (zown 143) (.invokevirtual 309) = some (11, 0) := by decide +kernel
theorem c_144_309 : zcal (zown 144) (.invokevirtual 309) = some (11, 0) := by decide +kernel
theorem c_144_312 : zcal (zown 144) (.invokevirtual 312) = some (69, 0) := by decide +kernel
theorem c_145_315 : zcal (zown 145) (.invokevirtual 315) = some (66, 0) := by decide +kernel
theorem c_146_315 : zcal (zown 146) (.invokevirtual 315) = some (66, 0) := by decide +kernel
theorem m_152_1 : zMl.lookup (zky (zown 152) 1) = some (0, 6) := by decide +kernel
theorem c_154_58 : zcal (zown 154) (.invokestatic 58) = some (153, 1) := by decide +kernel
theorem c_155_58 : zcal (zown 155) (.invokestatic 58) = some (153, 1) := by decide +kernel
theorem c_158_62 : zcal (zown 158) (.invokevirtual 62) = some (156, 0) := by decide +kernel
theorem c_159_62 : zcal (zown 159) (.invokevirtual 62) = some (156, 0) := by decide +kernel
theorem c_161_66 : zcal (zown 161) (.invokevirtual 66) = some (158, 0) := by decide +kernel
theorem c_161_70 : zcal (zown 161) (.invokestatic 70) = some (160, 1) := by decide +kernel
theorem c_161_73 : zcal (zown 161) (.invokevirtual 73) = some (159, 0) := by decide +kernel
theorem c_164_79 : zcal (zown 164) (.invokevirtual 79) = some (163, 0) := by decide +kernel
theorem c_165_58 : zcal (zown 165) (.invokestatic 58) = some (153, 1) := by decide +kernel
theorem c_165_62 : zcal (zown 165) (.invokevirtual 62) = some (156, 0) := by decide +kernel
theorem c_166_58 : zcal (zown 166) (.invokestatic 58) = some (153, 1) := by decide +kernel
theorem c_166_82 : zcal (zown 166) (.invokevirtual 82) = some (165, 0) := by decide +kernel
theorem c_167_85 : zcal (zown 167) (.invokevirtual 85) = some (157, 0) := by decide +kernel
theorem c_168_88 : zcal (zown 168) (.invokevirtual 88) = some (154, 0) := by decide +kernel
theorem c_168_92 : zcal (zown 168) (.invokevirtual 92) = some (167, 0) := by decide +kernel
theorem c_170_58 : zcal (zown 170) (.invokestatic 58) = some (153, 1) := by decide +kernel
theorem c_170_85 : zcal (zown 170) (.invokevirtual 85) = some (157, 0) := by decide +kernel
theorem c_170_95 : zcal (zown 170) (.invokevirtual 95) = some (155, 0) := by decide +kernel
theorem c_170_98 : zcal (zown 170) (.invokestatic 98) = some (169, 1) := by decide +kernel
theorem c_171_58 : zcal (zown 171) (.invokestatic 58) = some (153, 1) := by decide +kernel
theorem c_171_62 : zcal (zown 171) (.invokevirtual 62) = some (156, 0) := by decide +kernel
theorem c_171_88 : zcal (zown 171) (.invokevirtual 88) = some (154, 0) := by decide +kernel
theorem c_171_98 : zcal (zown 171) (.invokestatic 98) = some (169, 1) := by decide +kernel
theorem c_172_88 : zcal (zown 172) (.invokevirtual 88) = some (154, 0) := by decide +kernel
theorem c_174_101 : zcal (zown 174) (.invokevirtual 101) = some (162, 0) := by decide +kernel
theorem c_174_104 : zcal (zown 174) (.invokevirtual 104) = some (166, 0) := by decide +kernel
theorem c_174_108 : zcal (zown 174) (.invokevirtual 108) = some (164, 0) := by decide +kernel
theorem c_175_101 : zcal (zown 175) (.invokevirtual 101) = some (162, 0) := by decide +kernel
theorem c_175_108 : zcal (zown 175) (.invokevirtual 108) = some (164, 0) := by decide +kernel
theorem c_175_111 : zcal (zown 175) (.invokevirtual 111) = some (168, 0) := by decide +kernel
theorem c_176_101 : zcal (zown 176) (.invokevirtual 101) = some (162, 0) := by decide +kernel
theorem c_176_108 : zcal (zown 176) (.invokevirtual 108) = some (164, 0) := by decide +kernel
theorem c_176_114 : zcal (zown 176) (.invokevirtual 114) = some (170, 0) := by decide +kernel
theorem c_177_101 : zcal (zown 177) (.invokevirtual 101) = some (162, 0) := by decide +kernel
theorem c_177_108 : zcal (zown 177) (.invokevirtual 108) = some (164, 0) := by decide +kernel
theorem c_177_117 : zcal (zown 177) (.invokevirtual 117) = some (171, 0) := by decide +kernel
theorem c_178_101 : zcal (zown 178) (.invokevirtual 101) = some (162, 0) := by decide +kernel
theorem c_178_108 : zcal (zown 178) (.invokevirtual 108) = some (164, 0) := by decide +kernel
theorem c_178_120 : zcal (zown 178) (.invokevirtual 120) = some (172, 0) := by decide +kernel
theorem c_179_79 : zcal (zown 179) (.invokevirtual 79) = some (163, 0) := by decide +kernel
theorem c_179_85 : zcal (zown 179) (.invokevirtual 85) = some (157, 0) := by decide +kernel
theorem c_179_88 : zcal (zown 179) (.invokevirtual 88) = some (154, 0) := by decide +kernel
theorem c_179_101 : zcal (zown 179) (.invokevirtual 101) = some (162, 0) := by decide +kernel
theorem c_179_123 : zcal (zown 179) (.invokevirtual 123) = some (173, 0) := by decide +kernel
theorem c_180_79 : zcal (zown 180) (.invokevirtual 79) = some (163, 0) := by decide +kernel
theorem c_180_95 : zcal (zown 180) (.invokevirtual 95) = some (155, 0) := by decide +kernel
theorem c_180_101 : zcal (zown 180) (.invokevirtual 101) = some (162, 0) := by decide +kernel
theorem c_180_123 : zcal (zown 180) (.invokevirtual 123) = some (173, 0) := by decide +kernel
theorem c_182_134 : zcal (zown 182) (.invokevirtual 134) = some (181, 0) := by decide +kernel
theorem c_182_137 : zcal (zown 182) (.invokestatic 137) = some (182, 1) := by decide +kernel
theorem c_184_111 : zcal (zown 184) (.invokevirtual 111) = some (168, 0) := by decide +kernel
theorem c_184_144 : zcal (zown 184) (.invokevirtual 144) = some (161, 0) := by decide +kernel
theorem c_185_58 : zcal (zown 185) (.invokestatic 58) = some (153, 1) := by decide +kernel
theorem c_185_79 : zcal (zown 185) (.invokevirtual 79) = some (163, 0) := by decide +kernel
theorem c_185_101 : zcal (zown 185) (.invokevirtual 101) = some (162, 0) := by decide +kernel
theorem c_185_104 : zcal (zown 185) (.invokevirtual 104) = some (166, 0) := by decide +kernel
theorem c_185_134 : zcal (zown 185) (.invokevirtual 134) = some (181, 0) := by decide +kernel
theorem c_185_137 : zcal (zown 185) (.invokestatic 137) = some (182, 1) := by decide +kernel
theorem c_185_147 : zcal (zown 185) (.invokestatic 147) = some (183, 1) := by decide +kernel
theorem c_185_150 : zcal (zown 185) (.invokevirtual 150) = some (184, 0) := by decide +kernel
theorem c_186_79 : zcal (zown 186) (.invokevirtual 79) = some (163, 0) := by decide +kernel
theorem c_186_92 : zcal (zown 186) (.invokevirtual 92) = some (167, 0) := by decide +kernel
theorem c_186_101 : zcal (zown 186) (.invokevirtual 101) = some (162, 0) := by decide +kernel
theorem c_186_111 : zcal (zown 186) (.invokevirtual 111) = some (168, 0) := by decide +kernel
theorem c_186_144 : zcal (zown 186) (.invokevirtual 144) = some (161, 0) := by decide +kernel
theorem c_187_85 : zcal (zown 187) (.invokevirtual 85) = some (157, 0) := by decide +kernel
theorem c_188_154 : zcal (zown 188) (.invokevirtual 154) = some (187, 0) := by decide +kernel
theorem c_189_85 : zcal (zown 189) (.invokevirtual 85) = some (157, 0) := by decide +kernel
theorem c_190_62 : zcal (zown 190) (.invokevirtual 62) = some (156, 0) := by decide +kernel
theorem c_190_158 : zcal (zown 190) (.invokevirtual 158) = some (188, 0) := by decide +kernel
theorem c_190_161 : zcal (zown 190) (.invokevirtual 161) = some (189, 0) := by decide +kernel
theorem c_191_85 : zcal (zown 191) (.invokevirtual 85) = some (157, 0) := by decide +kernel
theorem c_192_62 : zcal (zown 192) (.invokevirtual 62) = some (156, 0) := by decide +kernel
theorem c_193_170 : zcal (zown 193) (.invokevirtual 170) = some (192, 0) := by decide +kernel
theorem c_193_173 : zcal (zown 193) (.invokevirtual 173) = some (191, 0) := by decide +kernel
theorem c_193_176 : zcal (zown 193) (.invokevirtual 176) = some (190, 0) := by decide +kernel
theorem c_194_179 : zcal (zown 194) (.invokevirtual 179) = some (193, 0) := by decide +kernel
theorem c_195_154 : zcal (zown 195) (.invokevirtual 154) = some (187, 0) := by decide +kernel
theorem c_196_62 : zcal (zown 196) (.invokevirtual 62) = some (156, 0) := by decide +kernel
theorem c_196_85 : zcal (zown 196) (.invokevirtual 85) = some (157, 0) := by decide +kernel
theorem c_197_62 : zcal (zown 197) (.invokevirtual 62) = some (156, 0) := by decide +kernel
theorem c_197_70 : zcal (zown 197) (.invokestatic 70) = some (160, 1) := by decide +kernel
theorem c_197_79 : zcal (zown 197) (.invokevirtual 79) = some (163, 0) := by decide +kernel
theorem c_197_85 : zcal (zown 197) (.invokevirtual 85) = some (157, 0) := by decide +kernel
theorem c_197_101 : zcal (zown 197) (.invokevirtual 101) = some (162, 0) := by decide +kernel
theorem c_197_114 : zcal (zown 197) (.invokevirtual 114) = some (170, 0) := by decide +kernel
theorem c_197_117 : zcal (zown 197) (.invokevirtual 117) = some (171, 0) := by decide +kernel
theorem c_197_158 : zcal (zown 197) (.invokevirtual 158) = some (188, 0) := by decide +kernel
theorem c_197_179 : zcal (zown 197) (.invokevirtual 179) = some (193, 0) := by decide +kernel
theorem c_197_182 : zcal (zown 197) (.invokevirtual 182) = some (195, 0) := by decide +kernel
theorem c_197_185 : zcal (zown 197) (.invokevirtual 185) = some (196, 0) := by decide +kernel
theorem c_198_58 : zcal (zown 198) (.invokestatic 58) = some (153, 1) := by decide +kernel
theorem c_198_79 : zcal (zown 198) (.invokevirtual 79) = some (163, 0) := by decide +kernel
theorem c_198_101 : zcal (zown 198) (.invokevirtual 101) = some (162, 0) := by decide +kernel
theorem c_199_58 : zcal (zown 199) (.invokestatic 58) = some (153, 1) := by decide +kernel
theorem c_202_58 : zcal (zown 202) (.invokestatic 58) = some (153, 1) := by decide +kernel
theorem c_203_198 : zcal (zown 203) (.invokestatic 198) = some (201, 1) := by decide +kernel
theorem c_203_201 : zcal (zown 203) (.invokevirtual 201) = some (200, 0) := by decide +kernel
theorem c_203_204 : zcal (zown 203) (.invokevirtual 204) = some (202, 0) := by decide +kernel
theorem c_204_104 : zcal (zown 204) (.invokevirtual 104) = some (166, 0) := by decide +kernel
theorem c_204_111 : zcal (zown 204) (.invokevirtual 111) = some (168, 0) := by decide +kernel
theorem c_204_114 : zcal (zown 204) (.invokevirtual 114) = some (170, 0) := by decide +kernel
theorem c_204_117 : zcal (zown 204) (.invokevirtual 117) = some (171, 0) := by decide +kernel
theorem c_204_120 : zcal (zown 204) (.invokevirtual 120) = some (172, 0) := by decide +kernel
theorem c_205_79 : zcal (zown 205) (.invokevirtual 79) = some (163, 0) := by decide +kernel
theorem c_205_101 : zcal (zown 205) (.invokevirtual 101) = some (162, 0) := by decide +kernel
theorem c_205_201 : zcal (zown 205) (.invokevirtual 201) = some (200, 0) := by decide +kernel
theorem c_205_207 : zcal (zown 205) (.invokevirtual 207) = some (203, 0) := by decide +kernel
theorem c_205_211 : zcal (zown 205) (.invokevirtual 211) = some (204, 0) := by decide +kernel
theorem c_208_58 : zcal (zown 208) (.invokestatic 58) = some (153, 1) := by decide +kernel
theorem c_209_58 : zcal (zown 209) (.invokestatic 58) = some (153, 1) := by decide +kernel
theorem c_210_66 : zcal (zown 210) (.invokevirtual 66) = some (158, 0) := by decide +kernel
theorem c_210_73 : zcal (zown 210) (.invokevirtual 73) = some (159, 0) := by decide +kernel
theorem c_210_82 : zcal (zown 210) (.invokevirtual 82) = some (165, 0) := by decide +kernel
theorem c_210_85 : zcal (zown 210) (.invokevirtual 85) = some (157, 0) := by decide +kernel
theorem c_210_214 : zcal (zown 210) (.invokestatic 214) = some (209, 1) := by decide +kernel
theorem c_211_85 : zcal (zown 211) (.invokevirtual 85) = some (157, 0) := by decide +kernel
theorem c_211_217 : zcal (zown 211) (.invokevirtual 217) = some (210, 0) := by decide +kernel
theorem c_212_217 : zcal (zown 212) (.invokevirtual 217) = some (210, 0) := by decide +kernel
theorem c_213_82 : zcal (zown 213) (.invokevirtual 82) = some (165, 0) := by decide +kernel
theorem c_213_220 : zcal (zown 213) (.invokestatic 220) = some (208, 1) := by decide +kernel
theorem c_213_224 : zcal (zown 213) (.invokevirtual 224) = some (211, 0) := by decide +kernel
theorem c_214_62 : zcal (zown 214) (.invokevirtual 62) = some (156, 0) := by decide +kernel
theorem c_214_66 : zcal (zown 214) (.invokevirtual 66) = some (158, 0) := by decide +kernel
theorem c_214_73 : zcal (zown 214) (.invokevirtual 73) = some (159, 0) := by decide +kernel
theorem c_214_82 : zcal (zown 214) (.invokevirtual 82) = some (165, 0) := by decide +kernel
theorem c_214_85 : zcal (zown 214) (.invokevirtual 85) = some (157, 0) := by decide +kernel
theorem c_214_220 : zcal (zown 214) (.invokestatic 220) = some (208, 1) := by decide +kernel
theorem c_214_224 : zcal (zown 214) (.invokevirtual 224) = some (211, 0) := by decide +kernel
theorem c_215_82 : zcal (zown 215) (.invokevirtual 82) = some (165, 0) := by decide +kernel
theorem c_215_224 : zcal (zown 215) (.invokevirtual 224) = some (211, 0) := by decide +kernel
theorem c_217_220 : zcal (zown 217) (.invokestatic 220) = some (208, 1) := by decide +kernel
theorem c_217_228 : zcal (zown 217) (.invokevirtual 228) = some (215, 0) := by decide +kernel
theorem c_217_231 : zcal (zown 217) (.invokevirtual 231) = some (216, 0) := by decide +kernel
theorem c_218_154 : zcal (zown 218) (.invokevirtual 154) = some (187, 0) := by decide +kernel
theorem c_219_62 : zcal (zown 219) (.invokevirtual 62) = some (156, 0) := by decide +kernel
theorem c_219_85 : zcal (zown 219) (.invokevirtual 85) = some (157, 0) := by decide +kernel
theorem c_219_161 : zcal (zown 219) (.invokevirtual 161) = some (189, 0) := by decide +kernel
theorem c_219_224 : zcal (zown 219) (.invokevirtual 224) = some (211, 0) := by decide +kernel
theorem c_219_234 : zcal (zown 219) (.invokevirtual 234) = some (218, 0) := by decide +kernel
theorem c_220_62 : zcal (zown 220) (.invokevirtual 62) = some (156, 0) := by decide +kernel
theorem c_220_66 : zcal (zown 220) (.invokevirtual 66) = some (158, 0) := by decide +kernel
theorem c_220_73 : zcal (zown 220) (.invokevirtual 73) = some (159, 0) := by decide +kernel
theorem c_220_88 : zcal (zown 220) (.invokevirtual 88) = some (154, 0) := by decide +kernel
theorem c_220_98 : zcal (zown 220) (.invokestatic 98) = some (169, 1) := by decide +kernel
theorem c_220_161 : zcal (zown 220) (.invokevirtual 161) = some (189, 0) := by decide +kernel
theorem c_221_85 : zcal (zown 221) (.invokevirtual 85) = some (157, 0) := by decide +kernel
theorem c_221_95 : zcal (zown 221) (.invokevirtual 95) = some (155, 0) := by decide +kernel
theorem c_221_98 : zcal (zown 221) (.invokestatic 98) = some (169, 1) := by decide +kernel
theorem c_221_237 : zcal (zown 221) (.invokevirtual 237) = some (212, 0) := by decide +kernel
theorem c_222_88 : zcal (zown 222) (.invokevirtual 88) = some (154, 0) := by decide +kernel
theorem c_222_92 : zcal (zown 222) (.invokevirtual 92) = some (167, 0) := by decide +kernel
theorem c_222_98 : zcal (zown 222) (.invokestatic 98) = some (169, 1) := by decide +kernel
theorem c_224_88 : zcal (zown 224) (.invokevirtual 88) = some (154, 0) := by decide +kernel
theorem c_224_158 : zcal (zown 224) (.invokevirtual 158) = some (188, 0) := by decide +kernel
theorem c_225_88 : zcal (zown 225) (.invokevirtual 88) = some (154, 0) := by decide +kernel
theorem c_225_176 : zcal (zown 225) (.invokevirtual 176) = some (190, 0) := by decide +kernel
theorem c_226_240 : zcal (zown 226) (.invokevirtual 240) = some (194, 0) := by decide +kernel
theorem c_227_58 : zcal (zown 227) (.invokestatic 58) = some (153, 1) := by decide +kernel
theorem c_227_240 : zcal (zown 227) (.invokevirtual 240) = some (194, 0) := by decide +kernel
theorem c_228_88 : zcal (zown 228) (.invokevirtual 88) = some (154, 0) := by decide +kernel
theorem c_228_240 : zcal (zown 228) (.invokevirtual 240) = some (194, 0) := by decide +kernel
theorem c_229_240 : zcal (zown 229) (.invokevirtual 240) = some (194, 0) := by decide +kernel
theorem c_230_240 : zcal (zown 230) (.invokevirtual 240) = some (194, 0) := by decide +kernel
theorem c_231_88 : zcal (zown 231) (.invokevirtual 88) = some (154, 0) := by decide +kernel
theorem c_231_179 : zcal (zown 231) (.invokevirtual 179) = some (193, 0) := by decide +kernel
theorem c_231_240 : zcal (zown 231) (.invokevirtual 240) = some (194, 0) := by decide +kernel
theorem c_232_88 : zcal (zown 232) (.invokevirtual 88) = some (154, 0) := by decide +kernel
theorem c_232_179 : zcal (zown 232) (.invokevirtual 179) = some (193, 0) := by decide +kernel
theorem c_232_240 : zcal (zown 232) (.invokevirtual 240) = some (194, 0) := by decide +kernel
theorem c_233_62 : zcal (zown 233) (.invokevirtual 62) = some (156, 0) := by decide +kernel
theorem c_234_85 : zcal (zown 234) (.invokevirtual 85) = some (157, 0) := by decide +kernel
theorem c_234_243 : zcal (zown 234) (.invokevirtual 243) = some (233, 0) := by decide +kernel
theorem c_235_92 : zcal (zown 235) (.invokevirtual 92) = some (167, 0) := by decide +kernel
theorem c_235_246 : zcal (zown 235) (.invokevirtual 246) = some (234, 0) := by decide +kernel
theorem c_236_243 : zcal (zown 236) (.invokevirtual 243) = some (233, 0) := by decide +kernel
theorem c_237_246 : zcal (zown 237) (.invokevirtual 246) = some (234, 0) := by decide +kernel
theorem c_238_88 : zcal (zown 238) (.invokevirtual 88) = some (154, 0) := by decide +kernel
theorem c_238_98 : zcal (zown 238) (.invokestatic 98) = some (169, 1) := by decide +kernel
theorem c_238_249 : zcal (zown 238) (.invokevirtual 249) = some (237, 0) := by decide +kernel
theorem c_238_252 : zcal (zown 238) (.invokevirtual 252) = some (236, 0) := by decide +kernel
theorem c_239_58 : zcal (zown 239) (.invokestatic 58) = some (153, 1) := by decide +kernel
theorem c_239_88 : zcal (zown 239) (.invokevirtual 88) = some (154, 0) := by decide +kernel
theorem c_239_249 : zcal (zown 239) (.invokevirtual 249) = some (237, 0) := by decide +kernel
theorem c_239_252 : zcal (zown 239) (.invokevirtual 252) = some (236, 0) := by decide +kernel
theorem c_239_255 : zcal (zown 239) (.invokevirtual 255) = some (235, 0) := by decide +kernel
theorem c_240_249 : zcal (zown 240) (.invokevirtual 249) = some (237, 0) := by decide +kernel
theorem c_240_252 : zcal (zown 240) (.invokevirtual 252) = some (236, 0) := by decide +kernel
theorem c_241_58 : zcal (zown 241) (.invokestatic 58) = some (153, 1) := by decide +kernel
theorem c_241_176 : zcal (zown 241) (.invokevirtual 176) = some (190, 0) := by decide +kernel
theorem c_241_240 : zcal (zown 241) (.invokevirtual 240) = some (194, 0) := by decide +kernel
theorem c_242_176 : zcal (zown 242) (.invokevirtual 176) = some (190, 0) := by decide +kernel
theorem c_242_240 : zcal (zown 242) (.invokevirtual 240) = some (194, 0) := by decide +kernel
theorem c_243_154 : zcal (zown 243) (.invokevirtual 154) = some (187, 0) := by decide +kernel
theorem c_243_240 : zcal (zown 243) (.invokevirtual 240) = some (194, 0) := by decide +kernel
theorem c_244_176 : zcal (zown 244) (.invokevirtual 176) = some (190, 0) := by decide +kernel
theorem c_244_262 : zcal (zown 244) (.invokestatic 262) = some (248, 1) := by decide +kernel
theorem c_248_122 : zcal (zown 248) (.invokestatic 122) = some (247, 1) := by decide +kernel
theorem m_248_134 : zMl.lookup (zky (zown 248) 134) = some (0, 7) := by decide +kernel
theorem c_255_9 : zcal (zown 255) (.invokespecial 9) = some (103, 2) := by decide +kernel
theorem c_255_12 : zcal (zown 255) (.invokespecial 12) = some (152, 2) := by decide +kernel
theorem c_255_13 : zcal (zown 255) (.invokevirtual 13) = some (104, 0) := by decide +kernel
theorem c_255_17 : zcal (zown 255) (.invokevirtual 17) = some (174, 0) := by decide +kernel
theorem c_255_18 : zcal (zown 255) (.invokevirtual 18) = some (105, 0) := by decide +kernel
theorem c_255_22 : zcal (zown 255) (.invokevirtual 22) = some (175, 0) := by decide +kernel
theorem c_255_23 : zcal (zown 255) (.invokevirtual 23) = some (106, 0) := by decide +kernel
theorem c_255_26 : zcal (zown 255) (.invokevirtual 26) = some (176, 0) := by decide +kernel
theorem c_255_27 : zcal (zown 255) (.invokevirtual 27) = some (107, 0) := by decide +kernel
theorem c_255_30 : zcal (zown 255) (.invokevirtual 30) = some (177, 0) := by decide +kernel
theorem c_255_31 : zcal (zown 255) (.invokevirtual 31) = some (108, 0) := by decide +kernel
theorem c_255_35 : zcal (zown 255) (.invokevirtual 35) = some (178, 0) := by decide +kernel
theorem c_255_36 : zcal (zown 255) (.invokevirtual 36) = some (109, 0) := by decide +kernel
theorem c_255_39 : zcal (zown 255) (.invokevirtual 39) = some (179, 0) := by decide +kernel
theorem c_255_40 : zcal (zown 255) (.invokevirtual 40) = some (110, 0) := by decide +kernel
theorem c_255_43 : zcal (zown 255) (.invokevirtual 43) = some (180, 0) := by decide +kernel
theorem c_255_44 : zcal (zown 255) (.invokevirtual 44) = some (111, 0) := by decide +kernel
theorem c_255_47 : zcal (zown 255) (.invokevirtual 47) = some (185, 0) := by decide +kernel
theorem c_255_48 : zcal (zown 255) (.invokevirtual 48) = some (112, 0) := by decide +kernel
theorem c_255_52 : zcal (zown 255) (.invokevirtual 52) = some (186, 0) := by decide +kernel
theorem c_255_53 : zcal (zown 255) (.invokevirtual 53) = some (113, 0) := by decide +kernel
theorem c_255_56 : zcal (zown 255) (.invokevirtual 56) = some (197, 0) := by decide +kernel
theorem c_255_57 : zcal (zown 255) (.invokevirtual 57) = some (114, 0) := by decide +kernel
theorem c_255_60 : zcal (zown 255) (.invokevirtual 60) = some (198, 0) := by decide +kernel
theorem c_255_61 : zcal (zown 255) (.invokevirtual 61) = some (115, 0) := by decide +kernel
theorem c_255_64 : zcal (zown 255) (.invokevirtual 64) = some (199, 0) := by decide +kernel
theorem c_255_65 : zcal (zown 255) (.invokevirtual 65) = some (116, 0) := by decide +kernel
theorem c_255_68 : zcal (zown 255) (.invokevirtual 68) = some (205, 0) := by decide +kernel
theorem c_255_69 : zcal (zown 255) (.invokevirtual 69) = some (117, 0) := by decide +kernel
theorem c_255_72 : zcal (zown 255) (.invokevirtual 72) = some (206, 0) := by decide +kernel
theorem c_255_73 : zcal (zown 255) (.invokevirtual 73) = some (118, 0) := by decide +kernel
theorem c_255_76 : zcal (zown 255) (.invokevirtual 76) = some (207, 0) := by decide +kernel
theorem c_255_77 : zcal (zown 255) (.invokevirtual 77) = some (119, 0) := by decide +kernel
theorem c_255_80 : zcal (zown 255) (.invokevirtual 80) = some (219, 0) := by decide +kernel
theorem c_255_81 : zcal (zown 255) (.invokevirtual 81) = some (120, 0) := by decide +kernel
theorem c_255_84 : zcal (zown 255) (.invokevirtual 84) = some (220, 0) := by decide +kernel
theorem c_255_85 : zcal (zown 255) (.invokevirtual 85) = some (121, 0) := by decide +kernel
theorem c_255_88 : zcal (zown 255) (.invokevirtual 88) = some (221, 0) := by decide +kernel
theorem c_255_89 : zcal (zown 255) (.invokevirtual 89) = some (122, 0) := by decide +kernel
theorem c_255_92 : zcal (zown 255) (.invokevirtual 92) = some (222, 0) := by decide +kernel
theorem c_255_93 : zcal (zown 255) (.invokevirtual 93) = some (123, 0) := by decide +kernel
theorem c_255_96 : zcal (zown 255) (.invokevirtual 96) = some (223, 0) := by decide +kernel
theorem c_255_97 : zcal (zown 255) (.invokevirtual 97) = some (124, 0) := by decide +kernel
theorem c_255_100 : zcal (zown 255) (.invokevirtual 100) = some (213, 0) := by decide +kernel
theorem c_255_101 : zcal (zown 255) (.invokevirtual 101) = some (125, 0) := by decide +kernel
theorem c_255_104 : zcal (zown 255) (.invokevirtual 104) = some (214, 0) := by decide +kernel
theorem c_255_105 : zcal (zown 255) (.invokevirtual 105) = some (126, 0) := by decide +kernel
theorem c_255_108 : zcal (zown 255) (.invokevirtual 108) = some (217, 0) := by decide +kernel
theorem c_255_109 : zcal (zown 255) (.invokevirtual 109) = some (127, 0) := by decide +kernel
theorem c_255_112 : zcal (zown 255) (.invokevirtual 112) = some (224, 0) := by decide +kernel
theorem c_255_113 : zcal (zown 255) (.invokevirtual 113) = some (128, 0) := by decide +kernel
theorem c_255_116 : zcal (zown 255) (.invokevirtual 116) = some (225, 0) := by decide +kernel
theorem c_255_117 : zcal (zown 255) (.invokevirtual 117) = some (129, 0) := by decide +kernel
theorem c_255_120 : zcal (zown 255) (.invokevirtual 120) = some (226, 0) := by decide +kernel
theorem c_255_121 : zcal (zown 255) (.invokevirtual 121) = some (130, 0) := by decide +kernel
theorem c_255_124 : zcal (zown 255) (.invokevirtual 124) = some (227, 0) := by decide +kernel
theorem c_255_125 : zcal (zown 255) (.invokevirtual 125) = some (131, 0) := by decide +kernel
theorem c_255_128 : zcal (zown 255) (.invokevirtual 128) = some (228, 0) := by decide +kernel
theorem c_255_129 : zcal (zown 255) (.invokevirtual 129) = some (132, 0) := by decide +kernel
theorem c_255_132 : zcal (zown 255) (.invokevirtual 132) = some (229, 0) := by decide +kernel
theorem c_255_133 : zcal (zown 255) (.invokevirtual 133) = some (133, 0) := by decide +kernel
theorem c_255_136 : zcal (zown 255) (.invokevirtual 136) = some (230, 0) := by decide +kernel
theorem c_255_137 : zcal (zown 255) (.invokevirtual 137) = some (134, 0) := by decide +kernel
theorem c_255_140 : zcal (zown 255) (.invokevirtual 140) = some (231, 0) := by decide +kernel
theorem c_255_141 : zcal (zown 255) (.invokevirtual 141) = some (135, 0) := by decide +kernel
theorem c_255_144 : zcal (zown 255) (.invokevirtual 144) = some (232, 0) := by decide +kernel
theorem c_255_145 : zcal (zown 255) (.invokevirtual 145) = some (136, 0) := by decide +kernel
theorem c_255_148 : zcal (zown 255) (.invokevirtual 148) = some (238, 0) := by decide +kernel
theorem c_255_149 : zcal (zown 255) (.invokevirtual 149) = some (137, 0) := by decide +kernel
theorem c_255_152 : zcal (zown 255) (.invokevirtual 152) = some (239, 0) := by decide +kernel
theorem c_255_153 : zcal (zown 255) (.invokevirtual 153) = some (138, 0) := by decide +kernel
theorem c_255_156 : zcal (zown 255) (.invokevirtual 156) = some (240, 0) := by decide +kernel
theorem c_255_157 : zcal (zown 255) (.invokevirtual 157) = some (139, 0) := by decide +kernel
theorem c_255_160 : zcal (zown 255) (.invokevirtual 160) = some (241, 0) := by decide +kernel
theorem c_255_161 : zcal (zown 255) (.invokevirtual 161) = some (140, 0) := by decide +kernel
theorem c_255_164 : zcal (zown 255) (.invokevirtual 164) = some (242, 0) := by decide +kernel
theorem c_255_165 : zcal (zown 255) (.invokevirtual 165) = some (141, 0) := by decide +kernel
theorem c_255_168 : zcal (zown 255) (.invokevirtual 168) = some (243, 0) := by decide +kernel
theorem c_255_169 : zcal (zown 255) (.invokevirtual 169) = some (142, 0) := by decide +kernel
theorem c_255_173 : zcal (zown 255) (.invokevirtual 173) = some (244, 0) := by decide +kernel
theorem c_255_174 : zcal (zown 255) (.invokevirtual 174) = some (143, 0) := by decide +kernel
theorem c_255_177 : zcal (zown 255) (.invokevirtual 177) = some (245, 0) := by decide +kernel
theorem c_255_178 : zcal (zown 255) (.invokevirtual 178) = some (144, 0) := by decide +kernel
theorem c_255_181 : zcal (zown 255) (.invokevirtual 181) = some (246, 0) := by decide +kernel
theorem t_0 : zrty 0 = none := by decide +kernel
theorem t_1 : zrty 1 = none := by decide +kernel
theorem t_2 : zrty 2 = some .int := by decide +kernel
theorem t_3 : zrty 3 = some .int := by decide +kernel
theorem t_4 : zrty 4 = none := by decide +kernel
theorem t_5 : zrty 5 = none := by decide +kernel
theorem t_6 : zrty 6 = none := by decide +kernel
theorem t_7 : zrty 7 = some .int := by decide +kernel
theorem t_8 : zrty 8 = none := by decide +kernel
theorem t_9 : zrty 9 = none := by decide +kernel
theorem t_10 : zrty 10 = none := by decide +kernel
theorem t_11 : zrty 11 = none := by decide +kernel
theorem t_12 : zrty 12 = none := by decide +kernel
theorem t_13 : zrty 13 = none := by decide +kernel
theorem t_14 : zrty 14 = none := by decide +kernel
theorem t_15 : zrty 15 = some .boolean := by decide +kernel
theorem t_16 : zrty 16 = some .boolean := by decide +kernel
theorem t_17 : zrty 17 = some .int := by decide +kernel
theorem t_18 : zrty 18 = some .boolean := by decide +kernel
theorem t_19 : zrty 19 = some .boolean := by decide +kernel
theorem t_20 : zrty 20 = some .int := by decide +kernel
theorem t_21 : zrty 21 = some .int := by decide +kernel
theorem t_22 : zrty 22 = some .int := by decide +kernel
theorem t_23 : zrty 23 = some .int := by decide +kernel
theorem t_24 : zrty 24 = some .int := by decide +kernel
theorem t_25 : zrty 25 = some .int := by decide +kernel
theorem t_26 : zrty 26 = none := by decide +kernel
theorem t_27 : zrty 27 = some .int := by decide +kernel
theorem t_28 : zrty 28 = some .int := by decide +kernel
theorem t_29 : zrty 29 = some .boolean := by decide +kernel
theorem t_30 : zrty 30 = some .int := by decide +kernel
theorem t_31 : zrty 31 = some .int := by decide +kernel
theorem t_32 : zrty 32 = some .int := by decide +kernel
theorem t_33 : zrty 33 = some .int := by decide +kernel
theorem t_34 : zrty 34 = some .int := by decide +kernel
theorem t_35 : zrty 35 = some .boolean := by decide +kernel
theorem t_36 : zrty 36 = some .int := by decide +kernel
theorem t_37 : zrty 37 = some .int := by decide +kernel
theorem t_38 : zrty 38 = some .int := by decide +kernel
theorem t_39 : zrty 39 = some .int := by decide +kernel
theorem t_40 : zrty 40 = some .int := by decide +kernel
theorem t_41 : zrty 41 = some .int := by decide +kernel
theorem t_42 : zrty 42 = none := by decide +kernel
theorem t_43 : zrty 43 = none := by decide +kernel
theorem t_44 : zrty 44 = some .int := by decide +kernel
theorem t_45 : zrty 45 = some .int := by decide +kernel
theorem t_46 : zrty 46 = some .int := by decide +kernel
theorem t_47 : zrty 47 = some .boolean := by decide +kernel
theorem t_48 : zrty 48 = some .int := by decide +kernel
theorem t_49 : zrty 49 = some .int := by decide +kernel
theorem t_50 : zrty 50 = some .int := by decide +kernel
theorem t_51 : zrty 51 = none := by decide +kernel
theorem t_52 : zrty 52 = none := by decide +kernel
theorem t_53 : zrty 53 = none := by decide +kernel
theorem t_54 : zrty 54 = none := by decide +kernel
theorem t_55 : zrty 55 = some .int := by decide +kernel
theorem t_56 : zrty 56 = some .int := by decide +kernel
theorem t_57 : zrty 57 = some .int := by decide +kernel
theorem t_58 : zrty 58 = some .boolean := by decide +kernel
theorem t_59 : zrty 59 = some .int := by decide +kernel
theorem t_60 : zrty 60 = some .int := by decide +kernel
theorem t_61 : zrty 61 = some .int := by decide +kernel
theorem t_62 : zrty 62 = some .int := by decide +kernel
theorem t_63 : zrty 63 = none := by decide +kernel
theorem t_64 : zrty 64 = none := by decide +kernel
theorem t_65 : zrty 65 = none := by decide +kernel
theorem t_66 : zrty 66 = none := by decide +kernel
theorem t_67 : zrty 67 = none := by decide +kernel
theorem t_68 : zrty 68 = some .int := by decide +kernel
theorem t_69 : zrty 69 = none := by decide +kernel
theorem t_70 : zrty 70 = none := by decide +kernel
theorem t_71 : zrty 71 = some .int := by decide +kernel
theorem t_72 : zrty 72 = some .int := by decide +kernel
theorem t_73 : zrty 73 = some .int := by decide +kernel
theorem t_74 : zrty 74 = some .int := by decide +kernel
theorem t_75 : zrty 75 = some .int := by decide +kernel
theorem t_76 : zrty 76 = some .int := by decide +kernel
theorem t_77 : zrty 77 = some .int := by decide +kernel
theorem t_78 : zrty 78 = some .int := by decide +kernel
theorem t_79 : zrty 79 = some .int := by decide +kernel
theorem t_80 : zrty 80 = some .int := by decide +kernel
theorem t_81 : zrty 81 = some .int := by decide +kernel
theorem t_82 : zrty 82 = none := by decide +kernel
theorem t_83 : zrty 83 = none := by decide +kernel
theorem t_84 : zrty 84 = none := by decide +kernel
theorem t_85 : zrty 85 = some .int := by decide +kernel
theorem t_86 : zrty 86 = none := by decide +kernel
theorem t_87 : zrty 87 = some .boolean := by decide +kernel
theorem t_88 : zrty 88 = some .boolean := by decide +kernel
theorem t_89 : zrty 89 = some .boolean := by decide +kernel
theorem t_90 : zrty 90 = some .int := by decide +kernel
theorem t_91 : zrty 91 = some .int := by decide +kernel
theorem t_92 : zrty 92 = some .boolean := by decide +kernel
theorem t_93 : zrty 93 = some .int := by decide +kernel
theorem t_94 : zrty 94 = some .boolean := by decide +kernel
theorem t_95 : zrty 95 = some .boolean := by decide +kernel
theorem t_96 : zrty 96 = some .int := by decide +kernel
theorem t_97 : zrty 97 = none := by decide +kernel
theorem t_98 : zrty 98 = none := by decide +kernel
theorem t_99 : zrty 99 = none := by decide +kernel
theorem t_100 : zrty 100 = none := by decide +kernel
theorem t_101 : zrty 101 = some .int := by decide +kernel
theorem t_102 : zrty 102 = some .int := by decide +kernel
theorem t_103 : zrty 103 = none := by decide +kernel
theorem t_104 : zrty 104 = some .int := by decide +kernel
theorem t_105 : zrty 105 = some .int := by decide +kernel
theorem t_106 : zrty 106 = some .int := by decide +kernel
theorem t_107 : zrty 107 = some .int := by decide +kernel
theorem t_108 : zrty 108 = some .int := by decide +kernel
theorem t_109 : zrty 109 = some .int := by decide +kernel
theorem t_110 : zrty 110 = some .int := by decide +kernel
theorem t_111 : zrty 111 = some .int := by decide +kernel
theorem t_112 : zrty 112 = some .int := by decide +kernel
theorem t_113 : zrty 113 = some .int := by decide +kernel
theorem t_114 : zrty 114 = some .int := by decide +kernel
theorem t_115 : zrty 115 = some .int := by decide +kernel
theorem t_116 : zrty 116 = some .int := by decide +kernel
theorem t_117 : zrty 117 = some .int := by decide +kernel
theorem t_118 : zrty 118 = some .int := by decide +kernel
theorem t_119 : zrty 119 = some .int := by decide +kernel
theorem t_120 : zrty 120 = some .int := by decide +kernel
theorem t_121 : zrty 121 = some .int := by decide +kernel
theorem t_122 : zrty 122 = some .int := by decide +kernel
theorem t_123 : zrty 123 = some .int := by decide +kernel
theorem t_124 : zrty 124 = some .int := by decide +kernel
theorem t_125 : zrty 125 = some .int := by decide +kernel
theorem t_126 : zrty 126 = some .int := by decide +kernel
theorem t_127 : zrty 127 = some .int := by decide +kernel
theorem t_128 : zrty 128 = some .int := by decide +kernel
theorem t_129 : zrty 129 = some .int := by decide +kernel
theorem t_130 : zrty 130 = some .int := by decide +kernel
theorem t_131 : zrty 131 = some .int := by decide +kernel
theorem t_132 : zrty 132 = some .int := by decide +kernel
theorem t_133 : zrty 133 = some .int := by decide +kernel
theorem t_134 : zrty 134 = some .int := by decide +kernel
theorem t_135 : zrty 135 = some .int := by decide +kernel
theorem t_136 : zrty 136 = some .int := by decide +kernel
theorem t_137 : zrty 137 = some .int := by decide +kernel
theorem t_138 : zrty 138 = some .int := by decide +kernel
theorem t_139 : zrty 139 = some .int := by decide +kernel
theorem t_140 : zrty 140 = some .int := by decide +kernel
theorem t_141 : zrty 141 = some .int := by decide +kernel
theorem t_142 : zrty 142 = some .long := by decide +kernel
theorem t_143 : zrty 143 = some .int := by decide +kernel
theorem t_144 : zrty 144 = some .int := by decide +kernel
theorem t_145 : zrty 145 = some .int := by decide +kernel
theorem t_146 : zrty 146 = some .int := by decide +kernel
theorem t_147 : zrty 147 = some .int := by decide +kernel
theorem t_148 : zrty 148 = some .boolean := by decide +kernel
theorem t_149 : zrty 149 = some .boolean := by decide +kernel
theorem t_150 : zrty 150 = some .int := by decide +kernel
theorem t_151 : zrty 151 = some .long := by decide +kernel
theorem t_152 : zrty 152 = none := by decide +kernel
theorem t_153 : zrty 153 = some .boolean := by decide +kernel
theorem t_154 : zrty 154 = some .boolean := by decide +kernel
theorem t_155 : zrty 155 = some .boolean := by decide +kernel
theorem t_156 : zrty 156 = some .int := by decide +kernel
theorem t_157 : zrty 157 = some .int := by decide +kernel
theorem t_158 : zrty 158 = some .int := by decide +kernel
theorem t_159 : zrty 159 = some .int := by decide +kernel
theorem t_160 : zrty 160 = some .int := by decide +kernel
theorem t_161 : zrty 161 = some .int := by decide +kernel
theorem t_162 : zrty 162 = none := by decide +kernel
theorem t_163 : zrty 163 = none := by decide +kernel
theorem t_164 : zrty 164 = some .int := by decide +kernel
theorem t_165 : zrty 165 = some .int := by decide +kernel
theorem t_166 : zrty 166 = some .int := by decide +kernel
theorem t_167 : zrty 167 = some .int := by decide +kernel
theorem t_168 : zrty 168 = some .int := by decide +kernel
theorem t_169 : zrty 169 = some .int := by decide +kernel
theorem t_170 : zrty 170 = some .int := by decide +kernel
theorem t_171 : zrty 171 = some .int := by decide +kernel
theorem t_172 : zrty 172 = some .int := by decide +kernel
theorem t_173 : zrty 173 = none := by decide +kernel
theorem t_174 : zrty 174 = some .int := by decide +kernel
theorem t_175 : zrty 175 = some .int := by decide +kernel
theorem t_176 : zrty 176 = some .int := by decide +kernel
theorem t_177 : zrty 177 = some .int := by decide +kernel
theorem t_178 : zrty 178 = some .int := by decide +kernel
theorem t_179 : zrty 179 = some .int := by decide +kernel
theorem t_180 : zrty 180 = some .int := by decide +kernel
theorem t_181 : zrty 181 = some .int := by decide +kernel
theorem t_182 : zrty 182 = none := by decide +kernel
theorem t_183 : zrty 183 = some .int := by decide +kernel
theorem t_184 : zrty 184 = none := by decide +kernel
theorem t_185 : zrty 185 = some .int := by decide +kernel
theorem t_186 : zrty 186 = some .int := by decide +kernel
theorem t_187 : zrty 187 = none := by decide +kernel
theorem t_188 : zrty 188 = some .int := by decide +kernel
theorem t_189 : zrty 189 = some .int := by decide +kernel
theorem t_190 : zrty 190 = some .int := by decide +kernel
theorem t_191 : zrty 191 = some .boolean := by decide +kernel
theorem t_192 : zrty 192 = none := by decide +kernel
theorem t_193 : zrty 193 = none := by decide +kernel
theorem t_194 : zrty 194 = none := by decide +kernel
theorem t_195 : zrty 195 = some .int := by decide +kernel
theorem t_196 : zrty 196 = some .int := by decide +kernel
theorem t_197 : zrty 197 = some .int := by decide +kernel
theorem t_198 : zrty 198 = some .int := by decide +kernel
theorem t_199 : zrty 199 = some .int := by decide +kernel
theorem t_200 : zrty 200 = some .boolean := by decide +kernel
theorem t_201 : zrty 201 = some .int := by decide +kernel
theorem t_202 : zrty 202 = some .boolean := by decide +kernel
theorem t_203 : zrty 203 = some .boolean := by decide +kernel
theorem t_204 : zrty 204 = some .int := by decide +kernel
theorem t_205 : zrty 205 = some .int := by decide +kernel
theorem t_206 : zrty 206 = some .int := by decide +kernel
theorem t_207 : zrty 207 = some .int := by decide +kernel
theorem t_208 : zrty 208 = some .boolean := by decide +kernel
theorem t_209 : zrty 209 = some .boolean := by decide +kernel
theorem t_210 : zrty 210 = some .boolean := by decide +kernel
theorem t_211 : zrty 211 = some .int := by decide +kernel
theorem t_212 : zrty 212 = some .int := by decide +kernel
theorem t_213 : zrty 213 = some .int := by decide +kernel
theorem t_214 : zrty 214 = some .int := by decide +kernel
theorem t_215 : zrty 215 = some .boolean := by decide +kernel
theorem t_216 : zrty 216 = some .int := by decide +kernel
theorem t_217 : zrty 217 = some .int := by decide +kernel
theorem t_218 : zrty 218 = some .int := by decide +kernel
theorem t_219 : zrty 219 = some .int := by decide +kernel
theorem t_220 : zrty 220 = some .int := by decide +kernel
theorem t_221 : zrty 221 = some .int := by decide +kernel
theorem t_222 : zrty 222 = some .int := by decide +kernel
theorem t_223 : zrty 223 = some .int := by decide +kernel
theorem t_224 : zrty 224 = some .int := by decide +kernel
theorem t_225 : zrty 225 = some .int := by decide +kernel
theorem t_226 : zrty 226 = some .int := by decide +kernel
theorem t_227 : zrty 227 = some .int := by decide +kernel
theorem t_228 : zrty 228 = some .int := by decide +kernel
theorem t_229 : zrty 229 = some .int := by decide +kernel
theorem t_230 : zrty 230 = some .int := by decide +kernel
theorem t_231 : zrty 231 = some .int := by decide +kernel
theorem t_232 : zrty 232 = some .int := by decide +kernel
theorem t_233 : zrty 233 = some .int := by decide +kernel
theorem t_234 : zrty 234 = some .int := by decide +kernel
theorem t_235 : zrty 235 = some .int := by decide +kernel
theorem t_236 : zrty 236 = some .int := by decide +kernel
theorem t_237 : zrty 237 = none := by decide +kernel
theorem t_238 : zrty 238 = some .int := by decide +kernel
theorem t_239 : zrty 239 = some .int := by decide +kernel
theorem t_240 : zrty 240 = some .int := by decide +kernel
theorem t_241 : zrty 241 = some .int := by decide +kernel
theorem t_242 : zrty 242 = some .int := by decide +kernel
theorem t_243 : zrty 243 = some .int := by decide +kernel
theorem t_244 : zrty 244 = some .long := by decide +kernel
theorem t_245 : zrty 245 = some .int := by decide +kernel
theorem t_246 : zrty 246 = some .int := by decide +kernel
theorem t_247 : zrty 247 = some .boolean := by decide +kernel
theorem t_248 : zrty 248 = some .long := by decide +kernel
theorem t_249 : zrty 249 = some .int := by decide +kernel
theorem t_250 : zrty 250 = some .int := by decide +kernel
theorem t_251 : zrty 251 = some .int := by decide +kernel
theorem t_252 : zrty 252 = some .int := by decide +kernel
theorem t_253 : zrty 253 = some .int := by decide +kernel
theorem t_254 : zrty 254 = none := by decide +kernel
theorem t_255 : zrty 255 = some .boolean := by decide +kernel
theorem kn_0 : zkn SH 0 = 9 := by decide +kernel
theorem rf_0_0 : zrf SH 0 0 = 1 + 1 := by decide +kernel
theorem rf_0_1 : zrf SH 0 1 = 10 + 1 := by decide +kernel
theorem rf_0_2 : zrf SH 0 2 = 19 + 1 := by decide +kernel
theorem rf_0_3 : zrf SH 0 3 = 84 + 1 := by decide +kernel
theorem rf_0_4 : zrf SH 0 4 = 109 + 1 := by decide +kernel
theorem rf_0_5 : zrf SH 0 5 = 118 + 1 := by decide +kernel
theorem rf_0_6 : zrf SH 0 6 = 120 + 1 := by decide +kernel
theorem rf_0_7 : zrf SH 0 7 = 125 + 1 := by decide +kernel
theorem rf_0_8 : zrf SH 0 8 = 132 + 1 := by decide +kernel
theorem kn_1 : zkn SH 1 = 1 := by decide +kernel
theorem rf_1_0 : zrf SH 1 0 = 2 + 1 := by decide +kernel
theorem rf_1_1 : zrf SH 1 1 = 3 + 1 := by decide +kernel
theorem rf_1_2 : zrf SH 1 2 = 4 + 1 := by decide +kernel
theorem rf_1_3 : zrf SH 1 3 = 5 + 1 := by decide +kernel
theorem rf_1_4 : zrf SH 1 4 = 6 + 1 := by decide +kernel
theorem rf_1_5 : zrf SH 1 5 = 7 + 1 := by decide +kernel
theorem rf_1_6 : zrf SH 1 6 = 8 + 1 := by decide +kernel
theorem rf_1_7 : zrf SH 1 7 = 9 + 1 := by decide +kernel
theorem kn_2 : zkn SH 2 = 20 := by decide +kernel
theorem ln_2 : zln SH 2 = 12 := by decide +kernel
theorem kn_3 : zkn SH 3 = 20 := by decide +kernel
theorem ln_3 : zln SH 3 = 12 := by decide +kernel
theorem kn_4 : zkn SH 4 = 20 := by decide +kernel
theorem ln_4 : zln SH 4 = 12 := by decide +kernel
theorem kn_5 : zkn SH 5 = 20 := by decide +kernel
theorem ln_5 : zln SH 5 = 12 := by decide +kernel
theorem kn_6 : zkn SH 6 = 20 := by decide +kernel
theorem ln_6 : zln SH 6 = 12 := by decide +kernel
theorem kn_7 : zkn SH 7 = 20 := by decide +kernel
theorem ln_7 : zln SH 7 = 20 := by decide +kernel
theorem kn_8 : zkn SH 8 = 20 := by decide +kernel
theorem ln_8 : zln SH 8 = 20 := by decide +kernel
theorem kn_9 : zkn SH 9 = 20 := by decide +kernel
theorem ln_9 : zln SH 9 = 20 := by decide +kernel
theorem kn_10 : zkn SH 10 = 1 := by decide +kernel
theorem rf_10_0 : zrf SH 10 0 = 11 + 1 := by decide +kernel
theorem rf_10_1 : zrf SH 10 1 = 12 + 1 := by decide +kernel
theorem rf_10_2 : zrf SH 10 2 = 13 + 1 := by decide +kernel
theorem rf_10_3 : zrf SH 10 3 = 14 + 1 := by decide +kernel
theorem rf_10_4 : zrf SH 10 4 = 15 + 1 := by decide +kernel
theorem rf_10_5 : zrf SH 10 5 = 16 + 1 := by decide +kernel
theorem rf_10_6 : zrf SH 10 6 = 17 + 1 := by decide +kernel
theorem rf_10_7 : zrf SH 10 7 = 18 + 1 := by decide +kernel
theorem kn_11 : zkn SH 11 = 20 := by decide +kernel
theorem ln_11 : zln SH 11 = 12 := by decide +kernel
theorem kn_12 : zkn SH 12 = 20 := by decide +kernel
theorem ln_12 : zln SH 12 = 12 := by decide +kernel
theorem kn_13 : zkn SH 13 = 20 := by decide +kernel
theorem ln_13 : zln SH 13 = 12 := by decide +kernel
theorem kn_14 : zkn SH 14 = 20 := by decide +kernel
theorem ln_14 : zln SH 14 = 12 := by decide +kernel
theorem kn_15 : zkn SH 15 = 20 := by decide +kernel
theorem ln_15 : zln SH 15 = 12 := by decide +kernel
theorem kn_16 : zkn SH 16 = 20 := by decide +kernel
theorem ln_16 : zln SH 16 = 20 := by decide +kernel
theorem kn_17 : zkn SH 17 = 20 := by decide +kernel
theorem ln_17 : zln SH 17 = 20 := by decide +kernel
theorem kn_18 : zkn SH 18 = 20 := by decide +kernel
theorem ln_18 : zln SH 18 = 20 := by decide +kernel
theorem kn_19 : zkn SH 19 = 4 := by decide +kernel
theorem rf_19_0 : zrf SH 19 0 = 20 + 1 := by decide +kernel
theorem kn_20 : zkn SH 20 = 23 := by decide +kernel
theorem ln_20 : zln SH 20 = 7 := by decide +kernel
theorem kn_21 : zkn SH 21 = 1 := by decide +kernel
theorem rf_21_0 : zrf SH 21 0 = 22 + 1 := by decide +kernel
theorem rf_21_1 : zrf SH 21 1 = 23 + 1 := by decide +kernel
theorem rf_21_2 : zrf SH 21 2 = 24 + 1 := by decide +kernel
theorem rf_21_3 : zrf SH 21 3 = 25 + 1 := by decide +kernel
theorem rf_21_4 : zrf SH 21 4 = 26 + 1 := by decide +kernel
theorem rf_21_5 : zrf SH 21 5 = 27 + 1 := by decide +kernel
theorem rf_21_6 : zrf SH 21 6 = 28 + 1 := by decide +kernel
theorem rf_21_7 : zrf SH 21 7 = 29 + 1 := by decide +kernel
theorem kn_22 : zkn SH 22 = 20 := by decide +kernel
theorem ln_22 : zln SH 22 = 12 := by decide +kernel
theorem kn_23 : zkn SH 23 = 20 := by decide +kernel
theorem ln_23 : zln SH 23 = 12 := by decide +kernel
theorem kn_24 : zkn SH 24 = 20 := by decide +kernel
theorem ln_24 : zln SH 24 = 12 := by decide +kernel
theorem kn_25 : zkn SH 25 = 20 := by decide +kernel
theorem ln_25 : zln SH 25 = 12 := by decide +kernel
theorem kn_26 : zkn SH 26 = 20 := by decide +kernel
theorem ln_26 : zln SH 26 = 12 := by decide +kernel
theorem kn_27 : zkn SH 27 = 20 := by decide +kernel
theorem ln_27 : zln SH 27 = 20 := by decide +kernel
theorem kn_28 : zkn SH 28 = 20 := by decide +kernel
theorem ln_28 : zln SH 28 = 20 := by decide +kernel
theorem kn_29 : zkn SH 29 = 20 := by decide +kernel
theorem ln_29 : zln SH 29 = 20 := by decide +kernel
theorem kn_30 : zkn SH 30 = 1 := by decide +kernel
theorem rf_30_0 : zrf SH 30 0 = 31 + 1 := by decide +kernel
theorem rf_30_1 : zrf SH 30 1 = 32 + 1 := by decide +kernel
theorem rf_30_2 : zrf SH 30 2 = 33 + 1 := by decide +kernel
theorem rf_30_3 : zrf SH 30 3 = 34 + 1 := by decide +kernel
theorem rf_30_4 : zrf SH 30 4 = 35 + 1 := by decide +kernel
theorem rf_30_5 : zrf SH 30 5 = 36 + 1 := by decide +kernel
theorem rf_30_6 : zrf SH 30 6 = 37 + 1 := by decide +kernel
theorem rf_30_7 : zrf SH 30 7 = 38 + 1 := by decide +kernel
theorem kn_31 : zkn SH 31 = 20 := by decide +kernel
theorem ln_31 : zln SH 31 = 12 := by decide +kernel
theorem kn_32 : zkn SH 32 = 20 := by decide +kernel
theorem ln_32 : zln SH 32 = 12 := by decide +kernel
theorem kn_33 : zkn SH 33 = 20 := by decide +kernel
theorem ln_33 : zln SH 33 = 12 := by decide +kernel
theorem kn_34 : zkn SH 34 = 20 := by decide +kernel
theorem ln_34 : zln SH 34 = 12 := by decide +kernel
theorem kn_35 : zkn SH 35 = 20 := by decide +kernel
theorem ln_35 : zln SH 35 = 12 := by decide +kernel
theorem kn_36 : zkn SH 36 = 20 := by decide +kernel
theorem ln_36 : zln SH 36 = 20 := by decide +kernel
theorem kn_37 : zkn SH 37 = 20 := by decide +kernel
theorem ln_37 : zln SH 37 = 20 := by decide +kernel
theorem kn_38 : zkn SH 38 = 20 := by decide +kernel
theorem ln_38 : zln SH 38 = 20 := by decide +kernel
theorem kn_39 : zkn SH 39 = 1 := by decide +kernel
theorem rf_39_0 : zrf SH 39 0 = 40 + 1 := by decide +kernel
theorem rf_39_1 : zrf SH 39 1 = 41 + 1 := by decide +kernel
theorem rf_39_2 : zrf SH 39 2 = 42 + 1 := by decide +kernel
theorem rf_39_3 : zrf SH 39 3 = 43 + 1 := by decide +kernel
theorem rf_39_4 : zrf SH 39 4 = 44 + 1 := by decide +kernel
theorem rf_39_5 : zrf SH 39 5 = 45 + 1 := by decide +kernel
theorem rf_39_6 : zrf SH 39 6 = 46 + 1 := by decide +kernel
theorem rf_39_7 : zrf SH 39 7 = 47 + 1 := by decide +kernel
theorem kn_40 : zkn SH 40 = 20 := by decide +kernel
theorem ln_40 : zln SH 40 = 12 := by decide +kernel
theorem kn_41 : zkn SH 41 = 20 := by decide +kernel
theorem ln_41 : zln SH 41 = 12 := by decide +kernel
theorem kn_42 : zkn SH 42 = 20 := by decide +kernel
theorem ln_42 : zln SH 42 = 12 := by decide +kernel
theorem kn_43 : zkn SH 43 = 20 := by decide +kernel
theorem ln_43 : zln SH 43 = 12 := by decide +kernel
theorem kn_44 : zkn SH 44 = 20 := by decide +kernel
theorem ln_44 : zln SH 44 = 12 := by decide +kernel
theorem kn_45 : zkn SH 45 = 20 := by decide +kernel
theorem ln_45 : zln SH 45 = 20 := by decide +kernel
theorem kn_46 : zkn SH 46 = 20 := by decide +kernel
theorem ln_46 : zln SH 46 = 20 := by decide +kernel
theorem kn_47 : zkn SH 47 = 20 := by decide +kernel
theorem ln_47 : zln SH 47 = 20 := by decide +kernel
theorem kn_48 : zkn SH 48 = 1 := by decide +kernel
theorem rf_48_0 : zrf SH 48 0 = 49 + 1 := by decide +kernel
theorem rf_48_1 : zrf SH 48 1 = 50 + 1 := by decide +kernel
theorem rf_48_2 : zrf SH 48 2 = 51 + 1 := by decide +kernel
theorem rf_48_3 : zrf SH 48 3 = 52 + 1 := by decide +kernel
theorem rf_48_4 : zrf SH 48 4 = 53 + 1 := by decide +kernel
theorem rf_48_5 : zrf SH 48 5 = 54 + 1 := by decide +kernel
theorem rf_48_6 : zrf SH 48 6 = 55 + 1 := by decide +kernel
theorem rf_48_7 : zrf SH 48 7 = 56 + 1 := by decide +kernel
theorem kn_49 : zkn SH 49 = 20 := by decide +kernel
theorem ln_49 : zln SH 49 = 12 := by decide +kernel
theorem kn_50 : zkn SH 50 = 20 := by decide +kernel
theorem ln_50 : zln SH 50 = 12 := by decide +kernel
theorem kn_51 : zkn SH 51 = 20 := by decide +kernel
theorem ln_51 : zln SH 51 = 12 := by decide +kernel
theorem kn_52 : zkn SH 52 = 20 := by decide +kernel
theorem ln_52 : zln SH 52 = 12 := by decide +kernel
theorem kn_53 : zkn SH 53 = 20 := by decide +kernel
theorem ln_53 : zln SH 53 = 12 := by decide +kernel
theorem kn_54 : zkn SH 54 = 20 := by decide +kernel
theorem ln_54 : zln SH 54 = 20 := by decide +kernel
theorem kn_55 : zkn SH 55 = 20 := by decide +kernel
theorem ln_55 : zln SH 55 = 20 := by decide +kernel
theorem kn_56 : zkn SH 56 = 20 := by decide +kernel
theorem ln_56 : zln SH 56 = 20 := by decide +kernel
theorem kn_57 : zkn SH 57 = 1 := by decide +kernel
theorem rf_57_0 : zrf SH 57 0 = 58 + 1 := by decide +kernel
theorem rf_57_1 : zrf SH 57 1 = 59 + 1 := by decide +kernel
theorem rf_57_2 : zrf SH 57 2 = 60 + 1 := by decide +kernel
theorem rf_57_3 : zrf SH 57 3 = 61 + 1 := by decide +kernel
theorem rf_57_4 : zrf SH 57 4 = 62 + 1 := by decide +kernel
theorem rf_57_5 : zrf SH 57 5 = 63 + 1 := by decide +kernel
theorem rf_57_6 : zrf SH 57 6 = 64 + 1 := by decide +kernel
theorem rf_57_7 : zrf SH 57 7 = 65 + 1 := by decide +kernel
theorem kn_58 : zkn SH 58 = 20 := by decide +kernel
theorem ln_58 : zln SH 58 = 12 := by decide +kernel
theorem kn_59 : zkn SH 59 = 20 := by decide +kernel
theorem ln_59 : zln SH 59 = 12 := by decide +kernel
theorem kn_60 : zkn SH 60 = 20 := by decide +kernel
theorem ln_60 : zln SH 60 = 12 := by decide +kernel
theorem kn_61 : zkn SH 61 = 20 := by decide +kernel
theorem ln_61 : zln SH 61 = 12 := by decide +kernel
theorem kn_62 : zkn SH 62 = 20 := by decide +kernel
theorem ln_62 : zln SH 62 = 12 := by decide +kernel
theorem kn_63 : zkn SH 63 = 20 := by decide +kernel
theorem ln_63 : zln SH 63 = 20 := by decide +kernel
theorem kn_64 : zkn SH 64 = 20 := by decide +kernel
theorem ln_64 : zln SH 64 = 20 := by decide +kernel
theorem kn_65 : zkn SH 65 = 20 := by decide +kernel
theorem ln_65 : zln SH 65 = 20 := by decide +kernel
theorem kn_66 : zkn SH 66 = 1 := by decide +kernel
theorem rf_66_0 : zrf SH 66 0 = 67 + 1 := by decide +kernel
theorem rf_66_1 : zrf SH 66 1 = 68 + 1 := by decide +kernel
theorem rf_66_2 : zrf SH 66 2 = 69 + 1 := by decide +kernel
theorem rf_66_3 : zrf SH 66 3 = 70 + 1 := by decide +kernel
theorem rf_66_4 : zrf SH 66 4 = 71 + 1 := by decide +kernel
theorem rf_66_5 : zrf SH 66 5 = 72 + 1 := by decide +kernel
theorem rf_66_6 : zrf SH 66 6 = 73 + 1 := by decide +kernel
theorem rf_66_7 : zrf SH 66 7 = 74 + 1 := by decide +kernel
theorem kn_67 : zkn SH 67 = 20 := by decide +kernel
theorem ln_67 : zln SH 67 = 12 := by decide +kernel
theorem kn_68 : zkn SH 68 = 20 := by decide +kernel
theorem ln_68 : zln SH 68 = 12 := by decide +kernel
theorem kn_69 : zkn SH 69 = 20 := by decide +kernel
theorem ln_69 : zln SH 69 = 12 := by decide +kernel
theorem kn_70 : zkn SH 70 = 20 := by decide +kernel
theorem ln_70 : zln SH 70 = 12 := by decide +kernel
theorem kn_71 : zkn SH 71 = 20 := by decide +kernel
theorem ln_71 : zln SH 71 = 12 := by decide +kernel
theorem kn_72 : zkn SH 72 = 20 := by decide +kernel
theorem ln_72 : zln SH 72 = 20 := by decide +kernel
theorem kn_73 : zkn SH 73 = 20 := by decide +kernel
theorem ln_73 : zln SH 73 = 20 := by decide +kernel
theorem kn_74 : zkn SH 74 = 20 := by decide +kernel
theorem ln_74 : zln SH 74 = 20 := by decide +kernel
theorem kn_75 : zkn SH 75 = 1 := by decide +kernel
theorem rf_75_0 : zrf SH 75 0 = 76 + 1 := by decide +kernel
theorem rf_75_1 : zrf SH 75 1 = 77 + 1 := by decide +kernel
theorem rf_75_2 : zrf SH 75 2 = 78 + 1 := by decide +kernel
theorem rf_75_3 : zrf SH 75 3 = 79 + 1 := by decide +kernel
theorem rf_75_4 : zrf SH 75 4 = 80 + 1 := by decide +kernel
theorem rf_75_5 : zrf SH 75 5 = 81 + 1 := by decide +kernel
theorem rf_75_6 : zrf SH 75 6 = 82 + 1 := by decide +kernel
theorem rf_75_7 : zrf SH 75 7 = 83 + 1 := by decide +kernel
theorem kn_76 : zkn SH 76 = 20 := by decide +kernel
theorem ln_76 : zln SH 76 = 12 := by decide +kernel
theorem kn_77 : zkn SH 77 = 20 := by decide +kernel
theorem ln_77 : zln SH 77 = 12 := by decide +kernel
theorem kn_78 : zkn SH 78 = 20 := by decide +kernel
theorem ln_78 : zln SH 78 = 12 := by decide +kernel
theorem kn_79 : zkn SH 79 = 20 := by decide +kernel
theorem ln_79 : zln SH 79 = 12 := by decide +kernel
theorem kn_80 : zkn SH 80 = 20 := by decide +kernel
theorem ln_80 : zln SH 80 = 12 := by decide +kernel
theorem kn_81 : zkn SH 81 = 20 := by decide +kernel
theorem ln_81 : zln SH 81 = 20 := by decide +kernel
theorem kn_82 : zkn SH 82 = 20 := by decide +kernel
theorem ln_82 : zln SH 82 = 20 := by decide +kernel
theorem kn_83 : zkn SH 83 = 20 := by decide +kernel
theorem ln_83 : zln SH 83 = 20 := by decide +kernel
theorem kn_84 : zkn SH 84 = 7 := by decide +kernel
theorem rf_84_0 : zrf SH 84 0 = 85 + 1 := by decide +kernel
theorem rf_84_1 : zrf SH 84 1 = 86 + 1 := by decide +kernel
theorem rf_84_2 : zrf SH 84 2 = 87 + 1 := by decide +kernel
theorem rf_84_3 : zrf SH 84 3 = 88 + 1 := by decide +kernel
theorem kn_85 : zkn SH 85 = 20 := by decide +kernel
theorem ln_85 : zln SH 85 = 60 := by decide +kernel
theorem kn_86 : zkn SH 86 = 20 := by decide +kernel
theorem ln_86 : zln SH 86 = 20 := by decide +kernel
theorem kn_87 : zkn SH 87 = 20 := by decide +kernel
theorem ln_87 : zln SH 87 = 20 := by decide +kernel
theorem kn_88 : zkn SH 88 = 24 := by decide +kernel
theorem ln_88 : zln SH 88 = 20 := by decide +kernel
theorem kn_89 : zkn SH 89 = 20 := by decide +kernel
theorem ln_89 : zln SH 89 = 4 := by decide +kernel
theorem kn_90 : zkn SH 90 = 20 := by decide +kernel
theorem ln_90 : zln SH 90 = 4 := by decide +kernel
theorem kn_91 : zkn SH 91 = 20 := by decide +kernel
theorem ln_91 : zln SH 91 = 4 := by decide +kernel
theorem kn_92 : zkn SH 92 = 20 := by decide +kernel
theorem ln_92 : zln SH 92 = 4 := by decide +kernel
theorem kn_93 : zkn SH 93 = 20 := by decide +kernel
theorem ln_93 : zln SH 93 = 4 := by decide +kernel
theorem kn_94 : zkn SH 94 = 20 := by decide +kernel
theorem ln_94 : zln SH 94 = 4 := by decide +kernel
theorem kn_95 : zkn SH 95 = 20 := by decide +kernel
theorem ln_95 : zln SH 95 = 4 := by decide +kernel
theorem kn_96 : zkn SH 96 = 20 := by decide +kernel
theorem ln_96 : zln SH 96 = 4 := by decide +kernel
theorem kn_97 : zkn SH 97 = 20 := by decide +kernel
theorem ln_97 : zln SH 97 = 4 := by decide +kernel
theorem kn_98 : zkn SH 98 = 20 := by decide +kernel
theorem ln_98 : zln SH 98 = 4 := by decide +kernel
theorem kn_99 : zkn SH 99 = 20 := by decide +kernel
theorem ln_99 : zln SH 99 = 4 := by decide +kernel
theorem kn_100 : zkn SH 100 = 20 := by decide +kernel
theorem ln_100 : zln SH 100 = 4 := by decide +kernel
theorem kn_101 : zkn SH 101 = 20 := by decide +kernel
theorem ln_101 : zln SH 101 = 4 := by decide +kernel
theorem kn_102 : zkn SH 102 = 20 := by decide +kernel
theorem ln_102 : zln SH 102 = 4 := by decide +kernel
theorem kn_103 : zkn SH 103 = 20 := by decide +kernel
theorem ln_103 : zln SH 103 = 4 := by decide +kernel
theorem kn_104 : zkn SH 104 = 20 := by decide +kernel
theorem ln_104 : zln SH 104 = 4 := by decide +kernel
theorem kn_105 : zkn SH 105 = 20 := by decide +kernel
theorem ln_105 : zln SH 105 = 4 := by decide +kernel
theorem kn_106 : zkn SH 106 = 20 := by decide +kernel
theorem ln_106 : zln SH 106 = 4 := by decide +kernel
theorem kn_107 : zkn SH 107 = 20 := by decide +kernel
theorem ln_107 : zln SH 107 = 4 := by decide +kernel
theorem kn_108 : zkn SH 108 = 20 := by decide +kernel
theorem ln_108 : zln SH 108 = 4 := by decide +kernel
theorem kn_109 : zkn SH 109 = 0 := by decide +kernel
theorem rf_109_0 : zrf SH 109 0 = 110 + 1 := by decide +kernel
theorem rf_109_1 : zrf SH 109 1 = 111 + 1 := by decide +kernel
theorem rf_109_2 : zrf SH 109 2 = 112 + 1 := by decide +kernel
theorem rf_109_3 : zrf SH 109 3 = 113 + 1 := by decide +kernel
theorem rf_109_4 : zrf SH 109 4 = 114 + 1 := by decide +kernel
theorem rf_109_5 : zrf SH 109 5 = 115 + 1 := by decide +kernel
theorem rf_109_6 : zrf SH 109 6 = 116 + 1 := by decide +kernel
theorem rf_109_7 : zrf SH 109 7 = 117 + 1 := by decide +kernel
theorem kn_110 : zkn SH 110 = 20 := by decide +kernel
theorem ln_110 : zln SH 110 = 23 := by decide +kernel
theorem kn_111 : zkn SH 111 = 20 := by decide +kernel
theorem ln_111 : zln SH 111 = 23 := by decide +kernel
theorem kn_112 : zkn SH 112 = 20 := by decide +kernel
theorem ln_112 : zln SH 112 = 23 := by decide +kernel
theorem kn_113 : zkn SH 113 = 20 := by decide +kernel
theorem ln_113 : zln SH 113 = 23 := by decide +kernel
theorem kn_114 : zkn SH 114 = 20 := by decide +kernel
theorem ln_114 : zln SH 114 = 23 := by decide +kernel
theorem kn_115 : zkn SH 115 = 20 := by decide +kernel
theorem ln_115 : zln SH 115 = 23 := by decide +kernel
theorem kn_116 : zkn SH 116 = 20 := by decide +kernel
theorem ln_116 : zln SH 116 = 12 := by decide +kernel
theorem kn_117 : zkn SH 117 = 20 := by decide +kernel
theorem ln_117 : zln SH 117 = 12 := by decide +kernel
theorem kn_118 : zkn SH 118 = 5 := by decide +kernel
theorem rf_118_0 : zrf SH 118 0 = 119 + 1 := by decide +kernel
theorem kn_119 : zkn SH 119 = 20 := by decide +kernel
theorem ln_119 : zln SH 119 = 12 := by decide +kernel
theorem kn_120 : zkn SH 120 = 2 := by decide +kernel
theorem rf_120_0 : zrf SH 120 0 = 121 + 1 := by decide +kernel
theorem rf_120_1 : zrf SH 120 1 = 122 + 1 := by decide +kernel
theorem rf_120_2 : zrf SH 120 2 = 123 + 1 := by decide +kernel
theorem rf_120_3 : zrf SH 120 3 = 124 + 1 := by decide +kernel
theorem kn_121 : zkn SH 121 = 20 := by decide +kernel
theorem ln_121 : zln SH 121 = 12 := by decide +kernel
theorem kn_122 : zkn SH 122 = 20 := by decide +kernel
theorem ln_122 : zln SH 122 = 12 := by decide +kernel
theorem kn_123 : zkn SH 123 = 20 := by decide +kernel
theorem ln_123 : zln SH 123 = 12 := by decide +kernel
theorem kn_124 : zkn SH 124 = 20 := by decide +kernel
theorem ln_124 : zln SH 124 = 12 := by decide +kernel
theorem kn_125 : zkn SH 125 = 8 := by decide +kernel
theorem rf_125_0 : zrf SH 125 0 = 126 + 1 := by decide +kernel
theorem rf_125_1 : zrf SH 125 1 = 127 + 1 := by decide +kernel
theorem rf_125_2 : zrf SH 125 2 = 128 + 1 := by decide +kernel
theorem rf_125_3 : zrf SH 125 3 = 129 + 1 := by decide +kernel
theorem rf_125_4 : zrf SH 125 4 = 130 + 1 := by decide +kernel
theorem rf_125_5 : zrf SH 125 5 = 131 + 1 := by decide +kernel
theorem kn_126 : zkn SH 126 = 20 := by decide +kernel
theorem ln_126 : zln SH 126 = 768 := by decide +kernel
theorem kn_127 : zkn SH 127 = 20 := by decide +kernel
theorem ln_127 : zln SH 127 = 768 := by decide +kernel
theorem kn_128 : zkn SH 128 = 20 := by decide +kernel
theorem ln_128 : zln SH 128 = 768 := by decide +kernel
theorem kn_129 : zkn SH 129 = 20 := by decide +kernel
theorem ln_129 : zln SH 129 = 768 := by decide +kernel
theorem kn_130 : zkn SH 130 = 20 := by decide +kernel
theorem ln_130 : zln SH 130 = 768 := by decide +kernel
theorem kn_131 : zkn SH 131 = 20 := by decide +kernel
theorem ln_131 : zln SH 131 = 12 := by decide +kernel
theorem kn_132 : zkn SH 132 = 3 := by decide +kernel
theorem rf_132_0 : zrf SH 132 0 = 133 + 1 := by decide +kernel
theorem rf_132_1 : zrf SH 132 1 = 134 + 1 := by decide +kernel
theorem rf_132_2 : zrf SH 132 2 = 135 + 1 := by decide +kernel
theorem rf_132_3 : zrf SH 132 3 = 136 + 1 := by decide +kernel
theorem rf_132_4 : zrf SH 132 4 = 137 + 1 := by decide +kernel
theorem kn_133 : zkn SH 133 = 20 := by decide +kernel
theorem ln_133 : zln SH 133 = 384 := by decide +kernel
theorem kn_134 : zkn SH 134 = 20 := by decide +kernel
theorem ln_134 : zln SH 134 = 384 := by decide +kernel
theorem kn_135 : zkn SH 135 = 20 := by decide +kernel
theorem ln_135 : zln SH 135 = 384 := by decide +kernel
theorem kn_136 : zkn SH 136 = 20 := by decide +kernel
theorem ln_136 : zln SH 136 = 384 := by decide +kernel
theorem kn_137 : zkn SH 137 = 20 := by decide +kernel
theorem ln_137 : zln SH 137 = 384 := by decide +kernel
theorem kn_138 : zkn SH 138 = 10 := by decide +kernel
theorem rf_138_0 : zrf SH 138 0 = 139 + 1 := by decide +kernel
theorem rf_138_1 : zrf SH 138 1 = 140 + 1 := by decide +kernel
theorem rf_138_3 : zrf SH 138 3 = 141 + 1 := by decide +kernel
theorem rf_138_5 : zrf SH 138 5 = 142 + 1 := by decide +kernel
theorem rf_138_7 : zrf SH 138 7 = 143 + 1 := by decide +kernel
theorem rf_138_9 : zrf SH 138 9 = 144 + 1 := by decide +kernel
theorem rf_138_11 : zrf SH 138 11 = 145 + 1 := by decide +kernel
theorem rf_138_12 : zrf SH 138 12 = 146 + 1 := by decide +kernel
theorem rf_138_14 : zrf SH 138 14 = 147 + 1 := by decide +kernel
theorem rf_138_16 : zrf SH 138 16 = 148 + 1 := by decide +kernel
theorem rf_138_21 : zrf SH 138 21 = 149 + 1 := by decide +kernel
theorem rf_138_22 : zrf SH 138 22 = 150 + 1 := by decide +kernel
theorem rf_138_23 : zrf SH 138 23 = 151 + 1 := by decide +kernel
theorem rf_138_24 : zrf SH 138 24 = 152 + 1 := by decide +kernel
theorem kn_139 : zkn SH 139 = 20 := by decide +kernel
theorem ln_139 : zln SH 139 = 124 := by decide +kernel
theorem kn_140 : zkn SH 140 = 20 := by decide +kernel
theorem ln_140 : zln SH 140 = 744 := by decide +kernel
theorem kn_141 : zkn SH 141 = 20 := by decide +kernel
theorem ln_141 : zln SH 141 = 124 := by decide +kernel
theorem kn_142 : zkn SH 142 = 20 := by decide +kernel
theorem ln_142 : zln SH 142 = 124 := by decide +kernel
theorem kn_143 : zkn SH 143 = 20 := by decide +kernel
theorem ln_143 : zln SH 143 = 80 := by decide +kernel
theorem kn_144 : zkn SH 144 = 20 := by decide +kernel
theorem ln_144 : zln SH 144 = 60 := by decide +kernel
theorem kn_145 : zkn SH 145 = 20 := by decide +kernel
theorem ln_145 : zln SH 145 = 12 := by decide +kernel
theorem kn_146 : zkn SH 146 = 20 := by decide +kernel
theorem ln_146 : zln SH 146 = 12 := by decide +kernel
theorem kn_147 : zkn SH 147 = 22 := by decide +kernel
theorem ln_147 : zln SH 147 = 12 := by decide +kernel
theorem kn_148 : zkn SH 148 = 21 := by decide +kernel
theorem ln_148 : zln SH 148 = 60 := by decide +kernel
theorem kn_149 : zkn SH 149 = 20 := by decide +kernel
theorem ln_149 : zln SH 149 = 4 := by decide +kernel
theorem kn_150 : zkn SH 150 = 20 := by decide +kernel
theorem ln_150 : zln SH 150 = 384 := by decide +kernel
theorem kn_151 : zkn SH 151 = 22 := by decide +kernel
theorem ln_151 : zln SH 151 = 384 := by decide +kernel
theorem kn_152 : zkn SH 152 = 20 := by decide +kernel
theorem ln_152 : zln SH 152 = 768 := by decide +kernel
def zDn (D : Nat) : Prop := D = 1 ∨ D = 10 ∨ ∃ i, i < 7 ∧ D = 21 + 9 * i
theorem zDn_all (P : Nat → Prop) (h1 : P 1) (h2 : P 10) (h3 : ∀ i, i < 7 → P (21 + 9 * i)) {D : Nat} (h : zDn D) : P D := by
  rcases h with rfl | rfl | ⟨i, hi, rfl⟩
  · exact h1
  · exact h2
  · exact h3 i hi
theorem dg_kn {D : Nat} (h : zDn D) : zkn SH D = 1 := zDn_all (fun D => zkn SH D = 1) (by decide +kernel) (by decide +kernel) (by decide +kernel) h
theorem dg_rf0 {D : Nat} (h : zDn D) : zrf SH D 0 = D + 1 + 1 := zDn_all (fun D => zrf SH D 0 = D + 1 + 1) (by decide +kernel) (by decide +kernel) (by decide +kernel) h
theorem dg_ka1 {D : Nat} (h : zDn D) : zkn SH (D + 1) = 20 := zDn_all (fun D => zkn SH (D + 1) = 20) (by decide +kernel) (by decide +kernel) (by decide +kernel) h
theorem dg_ln1 {D : Nat} (h : zDn D) : zln SH (D + 1) = 12 := zDn_all (fun D => zln SH (D + 1) = 12) (by decide +kernel) (by decide +kernel) (by decide +kernel) h
theorem dg_rf1 {D : Nat} (h : zDn D) : zrf SH D 1 = D + 2 + 1 := zDn_all (fun D => zrf SH D 1 = D + 2 + 1) (by decide +kernel) (by decide +kernel) (by decide +kernel) h
theorem dg_ka2 {D : Nat} (h : zDn D) : zkn SH (D + 2) = 20 := zDn_all (fun D => zkn SH (D + 2) = 20) (by decide +kernel) (by decide +kernel) (by decide +kernel) h
theorem dg_ln2 {D : Nat} (h : zDn D) : zln SH (D + 2) = 12 := zDn_all (fun D => zln SH (D + 2) = 12) (by decide +kernel) (by decide +kernel) (by decide +kernel) h
theorem dg_rf2 {D : Nat} (h : zDn D) : zrf SH D 2 = D + 3 + 1 := zDn_all (fun D => zrf SH D 2 = D + 3 + 1) (by decide +kernel) (by decide +kernel) (by decide +kernel) h
theorem dg_ka3 {D : Nat} (h : zDn D) : zkn SH (D + 3) = 20 := zDn_all (fun D => zkn SH (D + 3) = 20) (by decide +kernel) (by decide +kernel) (by decide +kernel) h
theorem dg_ln3 {D : Nat} (h : zDn D) : zln SH (D + 3) = 12 := zDn_all (fun D => zln SH (D + 3) = 12) (by decide +kernel) (by decide +kernel) (by decide +kernel) h
theorem dg_rf3 {D : Nat} (h : zDn D) : zrf SH D 3 = D + 4 + 1 := zDn_all (fun D => zrf SH D 3 = D + 4 + 1) (by decide +kernel) (by decide +kernel) (by decide +kernel) h
theorem dg_ka4 {D : Nat} (h : zDn D) : zkn SH (D + 4) = 20 := zDn_all (fun D => zkn SH (D + 4) = 20) (by decide +kernel) (by decide +kernel) (by decide +kernel) h
theorem dg_ln4 {D : Nat} (h : zDn D) : zln SH (D + 4) = 12 := zDn_all (fun D => zln SH (D + 4) = 12) (by decide +kernel) (by decide +kernel) (by decide +kernel) h
theorem dg_rf4 {D : Nat} (h : zDn D) : zrf SH D 4 = D + 5 + 1 := zDn_all (fun D => zrf SH D 4 = D + 5 + 1) (by decide +kernel) (by decide +kernel) (by decide +kernel) h
theorem dg_ka5 {D : Nat} (h : zDn D) : zkn SH (D + 5) = 20 := zDn_all (fun D => zkn SH (D + 5) = 20) (by decide +kernel) (by decide +kernel) (by decide +kernel) h
theorem dg_ln5 {D : Nat} (h : zDn D) : zln SH (D + 5) = 12 := zDn_all (fun D => zln SH (D + 5) = 12) (by decide +kernel) (by decide +kernel) (by decide +kernel) h
theorem dg_rf5 {D : Nat} (h : zDn D) : zrf SH D 5 = D + 6 + 1 := zDn_all (fun D => zrf SH D 5 = D + 6 + 1) (by decide +kernel) (by decide +kernel) (by decide +kernel) h
theorem dg_ka6 {D : Nat} (h : zDn D) : zkn SH (D + 6) = 20 := zDn_all (fun D => zkn SH (D + 6) = 20) (by decide +kernel) (by decide +kernel) (by decide +kernel) h
theorem dg_ln6 {D : Nat} (h : zDn D) : zln SH (D + 6) = 20 := zDn_all (fun D => zln SH (D + 6) = 20) (by decide +kernel) (by decide +kernel) (by decide +kernel) h
theorem dg_rf6 {D : Nat} (h : zDn D) : zrf SH D 6 = D + 7 + 1 := zDn_all (fun D => zrf SH D 6 = D + 7 + 1) (by decide +kernel) (by decide +kernel) (by decide +kernel) h
theorem dg_ka7 {D : Nat} (h : zDn D) : zkn SH (D + 7) = 20 := zDn_all (fun D => zkn SH (D + 7) = 20) (by decide +kernel) (by decide +kernel) (by decide +kernel) h
theorem dg_ln7 {D : Nat} (h : zDn D) : zln SH (D + 7) = 20 := zDn_all (fun D => zln SH (D + 7) = 20) (by decide +kernel) (by decide +kernel) (by decide +kernel) h
theorem dg_rf7 {D : Nat} (h : zDn D) : zrf SH D 7 = D + 8 + 1 := zDn_all (fun D => zrf SH D 7 = D + 8 + 1) (by decide +kernel) (by decide +kernel) (by decide +kernel) h
theorem dg_ka8 {D : Nat} (h : zDn D) : zkn SH (D + 8) = 20 := zDn_all (fun D => zkn SH (D + 8) = 20) (by decide +kernel) (by decide +kernel) (by decide +kernel) h
theorem dg_ln8 {D : Nat} (h : zDn D) : zln SH (D + 8) = 20 := zDn_all (fun D => zln SH (D + 8) = 20) (by decide +kernel) (by decide +kernel) (by decide +kernel) h
