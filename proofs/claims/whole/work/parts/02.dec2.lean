theorem dX7_clear_5 : decode cX7_clear 5 = .ok (.aload_n 0, 1) := by decide +kernel
theorem dX7_clear_6 : decode cX7_clear 6 = .ok (.iload_n 2, 1) := by decide +kernel
theorem dX7_clear_7 : decode cX7_clear 7 = .ok (.putfield 15, 3) := by decide +kernel
theorem dX7_clear_10 : decode cX7_clear 10 = .ok (.aload_n 0, 1) := by decide +kernel
theorem dX7_clear_11 : decode cX7_clear 11 = .ok (.lconst 0, 1) := by decide +kernel
theorem dX7_clear_12 : decode cX7_clear 12 = .ok (.putfield 22, 3) := by decide +kernel
theorem dX7_clear_15 : decode cX7_clear 15 = .ok (.aload_n 0, 1) := by decide +kernel
theorem dX7_clear_16 : decode cX7_clear 16 = .ok (.lconst 0, 1) := by decide +kernel
theorem dX7_clear_17 : decode cX7_clear 17 = .ok (.putfield 26, 3) := by decide +kernel
theorem dX7_clear_20 : decode cX7_clear 20 = .ok (.aload_n 0, 1) := by decide +kernel
theorem dX7_clear_21 : decode cX7_clear 21 = .ok (.getfield 18, 3) := by decide +kernel
theorem dX7_clear_24 : decode cX7_clear 24 = .ok (.iconst 0, 1) := by decide +kernel
theorem dX7_clear_25 : decode cX7_clear 25 = .ok (.invokestatic 39, 3) := by decide +kernel
theorem dX7_clear_28 : decode cX7_clear 28 = .ok (.aload_n 0, 1) := by decide +kernel
theorem dX7_clear_29 : decode cX7_clear 29 = .ok (.getfield 29, 3) := by decide +kernel
theorem dX7_clear_32 : decode cX7_clear 32 = .ok (.lconst 0, 1) := by decide +kernel
theorem dX7_clear_33 : decode cX7_clear 33 = .ok (.invokestatic 45, 3) := by decide +kernel
theorem dX7_clear_36 : decode cX7_clear 36 = .ok (.aload_n 0, 1) := by decide +kernel
theorem dX7_clear_37 : decode cX7_clear 37 = .ok (.getfield 33, 3) := by decide +kernel
theorem dX7_clear_40 : decode cX7_clear 40 = .ok (.lconst 0, 1) := by decide +kernel
theorem dX7_clear_41 : decode cX7_clear 41 = .ok (.invokestatic 45, 3) := by decide +kernel
theorem dX7_clear_44 : decode cX7_clear 44 = .ok (.aload_n 0, 1) := by decide +kernel
theorem dX7_clear_45 : decode cX7_clear 45 = .ok (.getfield 36, 3) := by decide +kernel
theorem dX7_clear_48 : decode cX7_clear 48 = .ok (.lconst 0, 1) := by decide +kernel
theorem dX7_clear_49 : decode cX7_clear 49 = .ok (.invokestatic 45, 3) := by decide +kernel
theorem dX7_clear_52 : decode cX7_clear 52 = .ok (.return_, 1) := by decide +kernel
theorem dX7_put_0 : decode cX7_put 0 = .ok (.lconst 1, 1) := by decide +kernel
theorem dX7_put_1 : decode cX7_put 1 = .ok (.iload_n 1, 1) := by decide +kernel
theorem dX7_put_2 : decode cX7_put 2 = .ok (.lshl, 1) := by decide +kernel
theorem dX7_put_3 : decode cX7_put 3 = .ok (.lstore_n 3, 1) := by decide +kernel
theorem dX7_put_4 : decode cX7_put 4 = .ok (.aload_n 0, 1) := by decide +kernel
theorem dX7_put_5 : decode cX7_put 5 = .ok (.getfield 18, 3) := by decide +kernel
theorem dX7_put_8 : decode cX7_put 8 = .ok (.iload_n 1, 1) := by decide +kernel
theorem dX7_put_9 : decode cX7_put 9 = .ok (.iload_n 2, 1) := by decide +kernel
theorem dX7_put_10 : decode cX7_put 10 = .ok (.iastore, 1) := by decide +kernel
theorem dX7_put_11 : decode cX7_put 11 = .ok (.iload_n 2, 1) := by decide +kernel
theorem dX7_put_12 : decode cX7_put 12 = .ok (.bipush 10, 2) := by decide +kernel
theorem dX7_put_14 : decode cX7_put 14 = .ok (.if_icmp .lt 19, 3) := by decide +kernel
theorem dX7_put_17 : decode cX7_put 17 = .ok (.aload_n 0, 1) := by decide +kernel
theorem dX7_put_18 : decode cX7_put 18 = .ok (.getfield 36, 3) := by decide +kernel
theorem dX7_put_21 : decode cX7_put 21 = .ok (.iload_n 2, 1) := by decide +kernel
theorem dX7_put_22 : decode cX7_put 22 = .ok (.bipush 10, 2) := by decide +kernel
theorem dX7_put_24 : decode cX7_put 24 = .ok (.isub, 1) := by decide +kernel
theorem dX7_put_25 : decode cX7_put 25 = .ok (.dup2, 1) := by decide +kernel
theorem dX7_put_26 : decode cX7_put 26 = .ok (.laload, 1) := by decide +kernel
theorem dX7_put_27 : decode cX7_put 27 = .ok (.lload_n 3, 1) := by decide +kernel
theorem dX7_put_28 : decode cX7_put 28 = .ok (.lor, 1) := by decide +kernel
theorem dX7_put_29 : decode cX7_put 29 = .ok (.lastore, 1) := by decide +kernel
theorem dX7_put_30 : decode cX7_put 30 = .ok (.goto 70, 3) := by decide +kernel
theorem dX7_put_33 : decode cX7_put 33 = .ok (.iload_n 2, 1) := by decide +kernel
theorem dX7_put_34 : decode cX7_put 34 = .ok (.bipush 6, 2) := by decide +kernel
theorem dX7_put_36 : decode cX7_put 36 = .ok (.if_icmp .lt 19, 3) := by decide +kernel
theorem dX7_put_39 : decode cX7_put 39 = .ok (.aload_n 0, 1) := by decide +kernel
theorem dX7_put_40 : decode cX7_put 40 = .ok (.getfield 33, 3) := by decide +kernel
theorem dX7_put_43 : decode cX7_put 43 = .ok (.iload_n 2, 1) := by decide +kernel
theorem dX7_put_44 : decode cX7_put 44 = .ok (.bipush 6, 2) := by decide +kernel
theorem dX7_put_46 : decode cX7_put 46 = .ok (.isub, 1) := by decide +kernel
theorem dX7_put_47 : decode cX7_put 47 = .ok (.dup2, 1) := by decide +kernel
theorem dX7_put_48 : decode cX7_put 48 = .ok (.laload, 1) := by decide +kernel
theorem dX7_put_49 : decode cX7_put 49 = .ok (.lload_n 3, 1) := by decide +kernel
theorem dX7_put_50 : decode cX7_put 50 = .ok (.lor, 1) := by decide +kernel
theorem dX7_put_51 : decode cX7_put 51 = .ok (.lastore, 1) := by decide +kernel
theorem dX7_put_52 : decode cX7_put 52 = .ok (.goto 48, 3) := by decide +kernel
theorem dX7_put_55 : decode cX7_put 55 = .ok (.iload_n 2, 1) := by decide +kernel
theorem dX7_put_56 : decode cX7_put 56 = .ok (.iconst 2, 1) := by decide +kernel
theorem dX7_put_57 : decode cX7_put 57 = .ok (.if_icmp .lt 28, 3) := by decide +kernel
theorem dX7_put_60 : decode cX7_put 60 = .ok (.aload_n 0, 1) := by decide +kernel
theorem dX7_put_61 : decode cX7_put 61 = .ok (.getfield 29, 3) := by decide +kernel
theorem dX7_put_64 : decode cX7_put 64 = .ok (.iload_n 2, 1) := by decide +kernel
theorem dX7_put_65 : decode cX7_put 65 = .ok (.iconst 2, 1) := by decide +kernel
theorem dX7_put_66 : decode cX7_put 66 = .ok (.isub, 1) := by decide +kernel
theorem dX7_put_67 : decode cX7_put 67 = .ok (.dup2, 1) := by decide +kernel
theorem dX7_put_68 : decode cX7_put 68 = .ok (.laload, 1) := by decide +kernel
theorem dX7_put_69 : decode cX7_put 69 = .ok (.lload_n 3, 1) := by decide +kernel
theorem dX7_put_70 : decode cX7_put 70 = .ok (.lor, 1) := by decide +kernel
theorem dX7_put_71 : decode cX7_put 71 = .ok (.lastore, 1) := by decide +kernel
theorem dX7_put_72 : decode cX7_put 72 = .ok (.aload_n 0, 1) := by decide +kernel
theorem dX7_put_73 : decode cX7_put 73 = .ok (.dup, 1) := by decide +kernel
theorem dX7_put_74 : decode cX7_put 74 = .ok (.getfield 26, 3) := by decide +kernel
theorem dX7_put_77 : decode cX7_put 77 = .ok (.lload_n 3, 1) := by decide +kernel
theorem dX7_put_78 : decode cX7_put 78 = .ok (.lor, 1) := by decide +kernel
theorem dX7_put_79 : decode cX7_put 79 = .ok (.putfield 26, 3) := by decide +kernel
theorem dX7_put_82 : decode cX7_put 82 = .ok (.goto 18, 3) := by decide +kernel
theorem dX7_put_85 : decode cX7_put 85 = .ok (.iload_n 2, 1) := by decide +kernel
theorem dX7_put_86 : decode cX7_put 86 = .ok (.iconst 1, 1) := by decide +kernel
theorem dX7_put_87 : decode cX7_put 87 = .ok (.if_icmp .ne 13, 3) := by decide +kernel
theorem dX7_put_90 : decode cX7_put 90 = .ok (.aload_n 0, 1) := by decide +kernel
theorem dX7_put_91 : decode cX7_put 91 = .ok (.dup, 1) := by decide +kernel
theorem dX7_put_92 : decode cX7_put 92 = .ok (.getfield 22, 3) := by decide +kernel
theorem dX7_put_95 : decode cX7_put 95 = .ok (.lload_n 3, 1) := by decide +kernel
theorem dX7_put_96 : decode cX7_put 96 = .ok (.lor, 1) := by decide +kernel
theorem dX7_put_97 : decode cX7_put 97 = .ok (.putfield 22, 3) := by decide +kernel
theorem dX7_put_100 : decode cX7_put 100 = .ok (.return_, 1) := by decide +kernel
theorem dX7_cellAt_0 : decode cX7_cellAt 0 = .ok (.iload_n 1, 1) := by decide +kernel
theorem dX7_cellAt_1 : decode cX7_cellAt 1 = .ok (.ifCond .lt 32, 3) := by decide +kernel
theorem dX7_cellAt_4 : decode cX7_cellAt 4 = .ok (.iload_n 1, 1) := by decide +kernel
theorem dX7_cellAt_5 : decode cX7_cellAt 5 = .ok (.aload_n 0, 1) := by decide +kernel
theorem dX7_cellAt_6 : decode cX7_cellAt 6 = .ok (.getfield 9, 3) := by decide +kernel
theorem dX7_cellAt_9 : decode cX7_cellAt 9 = .ok (.if_icmp .ge 24, 3) := by decide +kernel
theorem dX7_cellAt_12 : decode cX7_cellAt 12 = .ok (.iload_n 2, 1) := by decide +kernel
theorem dX7_cellAt_13 : decode cX7_cellAt 13 = .ok (.ifCond .lt 20, 3) := by decide +kernel
theorem dX7_cellAt_16 : decode cX7_cellAt 16 = .ok (.iload_n 2, 1) := by decide +kernel
theorem dX7_cellAt_17 : decode cX7_cellAt 17 = .ok (.aload_n 0, 1) := by decide +kernel
theorem dX7_cellAt_18 : decode cX7_cellAt 18 = .ok (.getfield 15, 3) := by decide +kernel
theorem dX7_cellAt_21 : decode cX7_cellAt 21 = .ok (.if_icmp .ge 12, 3) := by decide +kernel
theorem dX7_cellAt_24 : decode cX7_cellAt 24 = .ok (.bipush 8, 2) := by decide +kernel
theorem dX7_cellAt_26 : decode cX7_cellAt 26 = .ok (.iload_n 2, 1) := by decide +kernel
theorem dX7_cellAt_27 : decode cX7_cellAt 27 = .ok (.imul, 1) := by decide +kernel
theorem dX7_cellAt_28 : decode cX7_cellAt 28 = .ok (.iload_n 1, 1) := by decide +kernel
theorem dX7_cellAt_29 : decode cX7_cellAt 29 = .ok (.iadd, 1) := by decide +kernel
theorem dX7_cellAt_30 : decode cX7_cellAt 30 = .ok (.goto 4, 3) := by decide +kernel
theorem dX7_cellAt_33 : decode cX7_cellAt 33 = .ok (.iconst (-1), 1) := by decide +kernel
theorem dX7_cellAt_34 : decode cX7_cellAt 34 = .ok (.ireturn, 1) := by decide +kernel
theorem dX7_shifted_0 : decode cX7_shifted 0 = .ok (.iload_n 2, 1) := by decide +kernel
theorem dX7_shifted_1 : decode cX7_shifted 1 = .ok (.iconst 4, 1) := by decide +kernel
theorem dX7_shifted_2 : decode cX7_shifted 2 = .ok (.if_icmp .lt 25, 3) := by decide +kernel
theorem dX7_shifted_5 : decode cX7_shifted 5 = .ok (.iload_n 2, 1) := by decide +kernel
theorem dX7_shifted_6 : decode cX7_shifted 6 = .ok (.iconst 4, 1) := by decide +kernel
theorem dX7_shifted_7 : decode cX7_shifted 7 = .ok (.if_icmp .ne 7, 3) := by decide +kernel
theorem dX7_shifted_10 : decode cX7_shifted 10 = .ok (.iconst 1, 1) := by decide +kernel
theorem dX7_shifted_11 : decode cX7_shifted 11 = .ok (.goto 4, 3) := by decide +kernel
theorem dX7_shifted_14 : decode cX7_shifted 14 = .ok (.iconst 3, 1) := by decide +kernel
theorem dX7_shifted_15 : decode cX7_shifted 15 = .ok (.istore_n 3, 1) := by decide +kernel
theorem dX7_shifted_16 : decode cX7_shifted 16 = .ok (.iload_n 1, 1) := by decide +kernel
theorem dX7_shifted_17 : decode cX7_shifted 17 = .ok (.bipush 64, 2) := by decide +kernel
theorem dX7_shifted_19 : decode cX7_shifted 19 = .ok (.iload_n 3, 1) := by decide +kernel
theorem dX7_shifted_20 : decode cX7_shifted 20 = .ok (.imul, 1) := by decide +kernel
theorem dX7_shifted_21 : decode cX7_shifted 21 = .ok (.iadd, 1) := by decide +kernel
theorem dX7_shifted_22 : decode cX7_shifted 22 = .ok (.sipush 255, 3) := by decide +kernel
theorem dX7_shifted_25 : decode cX7_shifted 25 = .ok (.iand, 1) := by decide +kernel
theorem dX7_shifted_26 : decode cX7_shifted 26 = .ok (.ireturn, 1) := by decide +kernel
theorem dX7_shifted_27 : decode cX7_shifted 27 = .ok (.iload_n 1, 1) := by decide +kernel
theorem dX7_shifted_28 : decode cX7_shifted 28 = .ok (.bipush 7, 2) := by decide +kernel
theorem dX7_shifted_30 : decode cX7_shifted 30 = .ok (.iand, 1) := by decide +kernel
theorem dX7_shifted_31 : decode cX7_shifted 31 = .ok (.getstatic 48, 3) := by decide +kernel
theorem dX7_shifted_34 : decode cX7_shifted 34 = .ok (.iload_n 2, 1) := by decide +kernel
theorem dX7_shifted_35 : decode cX7_shifted 35 = .ok (.iaload, 1) := by decide +kernel
theorem dX7_shifted_36 : decode cX7_shifted 36 = .ok (.iadd, 1) := by decide +kernel
theorem dX7_shifted_37 : decode cX7_shifted 37 = .ok (.istore_n 3, 1) := by decide +kernel
theorem dX7_shifted_38 : decode cX7_shifted 38 = .ok (.iload_n 1, 1) := by decide +kernel
theorem dX7_shifted_39 : decode cX7_shifted 39 = .ok (.iconst 3, 1) := by decide +kernel
theorem dX7_shifted_40 : decode cX7_shifted 40 = .ok (.ishr, 1) := by decide +kernel
theorem dX7_shifted_41 : decode cX7_shifted 41 = .ok (.bipush 7, 2) := by decide +kernel
theorem dX7_shifted_43 : decode cX7_shifted 43 = .ok (.iand, 1) := by decide +kernel
theorem dX7_shifted_44 : decode cX7_shifted 44 = .ok (.getstatic 51, 3) := by decide +kernel
theorem dX7_shifted_47 : decode cX7_shifted 47 = .ok (.iload_n 2, 1) := by decide +kernel
theorem dX7_shifted_48 : decode cX7_shifted 48 = .ok (.iaload, 1) := by decide +kernel
theorem dX7_shifted_49 : decode cX7_shifted 49 = .ok (.iadd, 1) := by decide +kernel
theorem dX7_shifted_50 : decode cX7_shifted 50 = .ok (.istore 4, 2) := by decide +kernel
theorem dX7_shifted_52 : decode cX7_shifted 52 = .ok (.iload_n 3, 1) := by decide +kernel
theorem dX7_shifted_53 : decode cX7_shifted 53 = .ok (.ifCond .lt 29, 3) := by decide +kernel
theorem dX7_shifted_56 : decode cX7_shifted 56 = .ok (.iload_n 3, 1) := by decide +kernel
theorem dX7_shifted_57 : decode cX7_shifted 57 = .ok (.aload_n 0, 1) := by decide +kernel
theorem dX7_shifted_58 : decode cX7_shifted 58 = .ok (.getfield 9, 3) := by decide +kernel
theorem dX7_shifted_61 : decode cX7_shifted 61 = .ok (.if_icmp .ge 21, 3) := by decide +kernel
theorem dX7_shifted_64 : decode cX7_shifted 64 = .ok (.iload 4, 2) := by decide +kernel
theorem dX7_shifted_66 : decode cX7_shifted 66 = .ok (.ifCond .lt 16, 3) := by decide +kernel
theorem dX7_shifted_69 : decode cX7_shifted 69 = .ok (.iload 4, 2) := by decide +kernel
theorem dX7_shifted_71 : decode cX7_shifted 71 = .ok (.aload_n 0, 1) := by decide +kernel
theorem dX7_shifted_72 : decode cX7_shifted 72 = .ok (.getfield 15, 3) := by decide +kernel
theorem dX7_shifted_75 : decode cX7_shifted 75 = .ok (.if_icmp .ge 7, 3) := by decide +kernel
theorem dX7_shifted_78 : decode cX7_shifted 78 = .ok (.iconst 1, 1) := by decide +kernel
theorem dX7_shifted_79 : decode cX7_shifted 79 = .ok (.goto 4, 3) := by decide +kernel
theorem dX7_shifted_82 : decode cX7_shifted 82 = .ok (.iconst 0, 1) := by decide +kernel
theorem dX7_shifted_83 : decode cX7_shifted 83 = .ok (.istore 5, 2) := by decide +kernel
theorem dX7_shifted_85 : decode cX7_shifted 85 = .ok (.iload 5, 2) := by decide +kernel
theorem dX7_shifted_87 : decode cX7_shifted 87 = .ok (.ifCond .eq 22, 3) := by decide +kernel
theorem dX7_shifted_90 : decode cX7_shifted 90 = .ok (.iload_n 1, 1) := by decide +kernel
theorem dX7_shifted_91 : decode cX7_shifted 91 = .ok (.getstatic 48, 3) := by decide +kernel
theorem dX7_shifted_94 : decode cX7_shifted 94 = .ok (.iload_n 2, 1) := by decide +kernel
theorem dX7_shifted_95 : decode cX7_shifted 95 = .ok (.iaload, 1) := by decide +kernel
theorem dX7_shifted_96 : decode cX7_shifted 96 = .ok (.iadd, 1) := by decide +kernel
theorem dX7_shifted_97 : decode cX7_shifted 97 = .ok (.bipush 8, 2) := by decide +kernel
theorem dX7_shifted_99 : decode cX7_shifted 99 = .ok (.getstatic 51, 3) := by decide +kernel
theorem dX7_shifted_102 : decode cX7_shifted 102 = .ok (.iload_n 2, 1) := by decide +kernel
theorem dX7_shifted_103 : decode cX7_shifted 103 = .ok (.iaload, 1) := by decide +kernel
theorem dX7_shifted_104 : decode cX7_shifted 104 = .ok (.imul, 1) := by decide +kernel
theorem dX7_shifted_105 : decode cX7_shifted 105 = .ok (.iadd, 1) := by decide +kernel
theorem dX7_shifted_106 : decode cX7_shifted 106 = .ok (.goto 4, 3) := by decide +kernel
theorem dX7_shifted_109 : decode cX7_shifted 109 = .ok (.iconst (-1), 1) := by decide +kernel
theorem dX7_shifted_110 : decode cX7_shifted 110 = .ok (.ireturn, 1) := by decide +kernel
theorem dX8_init_0 : decode cX8_init 0 = .ok (.aload_n 0, 1) := by decide +kernel
theorem dX8_init_1 : decode cX8_init 1 = .ok (.invokespecial 1, 3) := by decide +kernel
theorem dX8_init_4 : decode cX8_init 4 = .ok (.aload_n 0, 1) := by decide +kernel
theorem dX8_init_5 : decode cX8_init 5 = .ok (.new 7, 3) := by decide +kernel
theorem dX8_init_8 : decode cX8_init 8 = .ok (.dup, 1) := by decide +kernel
theorem dX8_init_9 : decode cX8_init 9 = .ok (.invokespecial 9, 3) := by decide +kernel
theorem dX8_init_12 : decode cX8_init 12 = .ok (.putfield 10, 3) := by decide +kernel
theorem dX8_init_15 : decode cX8_init 15 = .ok (.aload_n 0, 1) := by decide +kernel
theorem dX8_init_16 : decode cX8_init 16 = .ok (.new 16, 3) := by decide +kernel
theorem dX8_init_19 : decode cX8_init 19 = .ok (.dup, 1) := by decide +kernel
theorem dX8_init_20 : decode cX8_init 20 = .ok (.invokespecial 18, 3) := by decide +kernel
theorem dX8_init_23 : decode cX8_init 23 = .ok (.putfield 19, 3) := by decide +kernel
theorem dX8_init_26 : decode cX8_init 26 = .ok (.aload_n 0, 1) := by decide +kernel
theorem dX8_init_27 : decode cX8_init 27 = .ok (.new 23, 3) := by decide +kernel
theorem dX8_init_30 : decode cX8_init 30 = .ok (.dup, 1) := by decide +kernel
theorem dX8_init_31 : decode cX8_init 31 = .ok (.aload_n 0, 1) := by decide +kernel
theorem dX8_init_32 : decode cX8_init 32 = .ok (.getfield 10, 3) := by decide +kernel
theorem dX8_init_35 : decode cX8_init 35 = .ok (.invokespecial 25, 3) := by decide +kernel
theorem dX8_init_38 : decode cX8_init 38 = .ok (.putfield 28, 3) := by decide +kernel
theorem dX8_init_41 : decode cX8_init 41 = .ok (.aload_n 0, 1) := by decide +kernel
theorem dX8_init_42 : decode cX8_init 42 = .ok (.new 32, 3) := by decide +kernel
theorem dX8_init_45 : decode cX8_init 45 = .ok (.dup, 1) := by decide +kernel
theorem dX8_init_46 : decode cX8_init 46 = .ok (.aload_n 0, 1) := by decide +kernel
theorem dX8_init_47 : decode cX8_init 47 = .ok (.getfield 19, 3) := by decide +kernel
theorem dX8_init_50 : decode cX8_init 50 = .ok (.invokespecial 34, 3) := by decide +kernel
theorem dX8_init_53 : decode cX8_init 53 = .ok (.putfield 37, 3) := by decide +kernel
theorem dX8_init_56 : decode cX8_init 56 = .ok (.aload_n 0, 1) := by decide +kernel
theorem dX8_init_57 : decode cX8_init 57 = .ok (.new 41, 3) := by decide +kernel
theorem dX8_init_60 : decode cX8_init 60 = .ok (.dup, 1) := by decide +kernel
theorem dX8_init_61 : decode cX8_init 61 = .ok (.invokespecial 43, 3) := by decide +kernel
theorem dX8_init_64 : decode cX8_init 64 = .ok (.putfield 44, 3) := by decide +kernel
theorem dX8_init_67 : decode cX8_init 67 = .ok (.aload_n 0, 1) := by decide +kernel
theorem dX8_init_68 : decode cX8_init 68 = .ok (.new 48, 3) := by decide +kernel
theorem dX8_init_71 : decode cX8_init 71 = .ok (.dup, 1) := by decide +kernel
theorem dX8_init_72 : decode cX8_init 72 = .ok (.aload_n 0, 1) := by decide +kernel
theorem dX8_init_73 : decode cX8_init 73 = .ok (.getfield 19, 3) := by decide +kernel
theorem dX8_init_76 : decode cX8_init 76 = .ok (.invokespecial 50, 3) := by decide +kernel
theorem dX8_init_79 : decode cX8_init 79 = .ok (.putfield 51, 3) := by decide +kernel
theorem dX8_init_82 : decode cX8_init 82 = .ok (.aload_n 0, 1) := by decide +kernel
theorem dX8_init_83 : decode cX8_init 83 = .ok (.iconst 4, 1) := by decide +kernel
theorem dX8_init_84 : decode cX8_init 84 = .ok (.newarray .long, 2) := by decide +kernel
theorem dX8_init_86 : decode cX8_init 86 = .ok (.putfield 55, 3) := by decide +kernel
theorem dX8_init_89 : decode cX8_init 89 = .ok (.aload_n 0, 1) := by decide +kernel
theorem dX8_init_90 : decode cX8_init 90 = .ok (.iconst 0, 1) := by decide +kernel
theorem dX8_init_91 : decode cX8_init 91 = .ok (.putfield 59, 3) := by decide +kernel
theorem dX8_init_94 : decode cX8_init 94 = .ok (.return_, 1) := by decide +kernel
theorem dX8_type_0 : decode cX8_type 0 = .ok (.aload_n 0, 1) := by decide +kernel
theorem dX8_type_1 : decode cX8_type 1 = .ok (.getfield 10, 3) := by decide +kernel
theorem dX8_type_4 : decode cX8_type 4 = .ok (.iload_n 1, 1) := by decide +kernel
theorem dX8_type_5 : decode cX8_type 5 = .ok (.invokevirtual 63, 3) := by decide +kernel
theorem dX8_type_8 : decode cX8_type 8 = .ok (.ifCond .eq 13, 3) := by decide +kernel
theorem dX8_type_11 : decode cX8_type 11 = .ok (.aload_n 0, 1) := by decide +kernel
theorem dX8_type_12 : decode cX8_type 12 = .ok (.getfield 10, 3) := by decide +kernel
theorem dX8_type_15 : decode cX8_type 15 = .ok (.getfield 67, 3) := by decide +kernel
theorem dX8_type_18 : decode cX8_type 18 = .ok (.goto 5, 3) := by decide +kernel
theorem dX8_type_21 : decode cX8_type 21 = .ok (.bipush (-5), 2) := by decide +kernel
theorem dX8_type_23 : decode cX8_type 23 = .ok (.ireturn, 1) := by decide +kernel
theorem dX8_clearText_0 : decode cX8_clearText 0 = .ok (.aload_n 0, 1) := by decide +kernel
theorem dX8_clearText_1 : decode cX8_clearText 1 = .ok (.getfield 10, 3) := by decide +kernel
theorem dX8_clearText_4 : decode cX8_clearText 4 = .ok (.getfield 67, 3) := by decide +kernel
theorem dX8_clearText_7 : decode cX8_clearText 7 = .ok (.istore_n 1, 1) := by decide +kernel
theorem dX8_clearText_8 : decode cX8_clearText 8 = .ok (.aload_n 0, 1) := by decide +kernel
theorem dX8_clearText_9 : decode cX8_clearText 9 = .ok (.getfield 10, 3) := by decide +kernel
theorem dX8_clearText_12 : decode cX8_clearText 12 = .ok (.iconst 0, 1) := by decide +kernel
theorem dX8_clearText_13 : decode cX8_clearText 13 = .ok (.putfield 67, 3) := by decide +kernel
theorem dX8_clearText_16 : decode cX8_clearText 16 = .ok (.iload_n 1, 1) := by decide +kernel
theorem dX8_clearText_17 : decode cX8_clearText 17 = .ok (.ireturn, 1) := by decide +kernel
theorem dX8_readLevel_0 : decode cX8_readLevel 0 = .ok (.aload_n 0, 1) := by decide +kernel
theorem dX8_readLevel_1 : decode cX8_readLevel 1 = .ok (.getfield 28, 3) := by decide +kernel
theorem dX8_readLevel_4 : decode cX8_readLevel 4 = .ok (.invokevirtual 70, 3) := by decide +kernel
theorem dX8_readLevel_7 : decode cX8_readLevel 7 = .ok (.istore_n 1, 1) := by decide +kernel
theorem dX8_readLevel_8 : decode cX8_readLevel 8 = .ok (.iload_n 1, 1) := by decide +kernel
theorem dX8_readLevel_9 : decode cX8_readLevel 9 = .ok (.iconst (-1), 1) := by decide +kernel
theorem dX8_readLevel_10 : decode cX8_readLevel 10 = .ok (.if_icmp .eq 8, 3) := by decide +kernel
theorem dX8_readLevel_13 : decode cX8_readLevel 13 = .ok (.bipush (-100), 2) := by decide +kernel
theorem dX8_readLevel_15 : decode cX8_readLevel 15 = .ok (.iload_n 1, 1) := by decide +kernel
theorem dX8_readLevel_16 : decode cX8_readLevel 16 = .ok (.isub, 1) := by decide +kernel
theorem dX8_readLevel_17 : decode cX8_readLevel 17 = .ok (.ireturn, 1) := by decide +kernel
theorem dX8_readLevel_18 : decode cX8_readLevel 18 = .ok (.aload_n 0, 1) := by decide +kernel
theorem dX8_readLevel_19 : decode cX8_readLevel 19 = .ok (.getfield 44, 3) := by decide +kernel
theorem dX8_readLevel_22 : decode cX8_readLevel 22 = .ok (.aload_n 0, 1) := by decide +kernel
theorem dX8_readLevel_23 : decode cX8_readLevel 23 = .ok (.getfield 28, 3) := by decide +kernel
theorem dX8_readLevel_26 : decode cX8_readLevel 26 = .ok (.aload_n 0, 1) := by decide +kernel
theorem dX8_readLevel_27 : decode cX8_readLevel 27 = .ok (.getfield 19, 3) := by decide +kernel
theorem dX8_readLevel_30 : decode cX8_readLevel 30 = .ok (.invokevirtual 74, 3) := by decide +kernel
theorem dX8_readLevel_33 : decode cX8_readLevel 33 = .ok (.invokevirtual 78, 3) := by decide +kernel
theorem dX8_readLevel_36 : decode cX8_readLevel 36 = .ok (.aload_n 0, 1) := by decide +kernel
theorem dX8_readLevel_37 : decode cX8_readLevel 37 = .ok (.iconst 0, 1) := by decide +kernel
theorem dX8_readLevel_38 : decode cX8_readLevel 38 = .ok (.putfield 59, 3) := by decide +kernel
theorem dX8_readLevel_41 : decode cX8_readLevel 41 = .ok (.aload_n 0, 1) := by decide +kernel
theorem dX8_readLevel_42 : decode cX8_readLevel 42 = .ok (.getfield 51, 3) := by decide +kernel
theorem dX8_readLevel_45 : decode cX8_readLevel 45 = .ok (.invokevirtual 82, 3) := by decide +kernel
theorem dX8_readLevel_48 : decode cX8_readLevel 48 = .ok (.aload_n 0, 1) := by decide +kernel
theorem dX8_readLevel_49 : decode cX8_readLevel 49 = .ok (.getfield 19, 3) := by decide +kernel
theorem dX8_readLevel_52 : decode cX8_readLevel 52 = .ok (.invokevirtual 85, 3) := by decide +kernel
theorem dX8_readLevel_55 : decode cX8_readLevel 55 = .ok (.ireturn, 1) := by decide +kernel
theorem dX8_readMoves_0 : decode cX8_readMoves 0 = .ok (.aload_n 0, 1) := by decide +kernel
theorem dX8_readMoves_1 : decode cX8_readMoves 1 = .ok (.invokevirtual 88, 3) := by decide +kernel
theorem dX8_readMoves_4 : decode cX8_readMoves 4 = .ok (.istore_n 1, 1) := by decide +kernel
theorem dX8_readMoves_5 : decode cX8_readMoves 5 = .ok (.iload_n 1, 1) := by decide +kernel
theorem dX8_readMoves_6 : decode cX8_readMoves 6 = .ok (.iconst (-1), 1) := by decide +kernel
theorem dX8_readMoves_7 : decode cX8_readMoves 7 = .ok (.if_icmp .eq 8, 3) := by decide +kernel
theorem dX8_readMoves_10 : decode cX8_readMoves 10 = .ok (.bipush (-100), 2) := by decide +kernel
theorem dX8_readMoves_12 : decode cX8_readMoves 12 = .ok (.iload_n 1, 1) := by decide +kernel
theorem dX8_readMoves_13 : decode cX8_readMoves 13 = .ok (.isub, 1) := by decide +kernel
theorem dX8_readMoves_14 : decode cX8_readMoves 14 = .ok (.ireturn, 1) := by decide +kernel
theorem dX8_readMoves_15 : decode cX8_readMoves 15 = .ok (.aload_n 0, 1) := by decide +kernel
theorem dX8_readMoves_16 : decode cX8_readMoves 16 = .ok (.getfield 10, 3) := by decide +kernel
theorem dX8_readMoves_19 : decode cX8_readMoves 19 = .ok (.getfield 67, 3) := by decide +kernel
theorem dX8_readMoves_22 : decode cX8_readMoves 22 = .ok (.iconst 2, 1) := by decide +kernel
theorem dX8_readMoves_23 : decode cX8_readMoves 23 = .ok (.idiv, 1) := by decide +kernel
theorem dX8_readMoves_24 : decode cX8_readMoves 24 = .ok (.istore_n 2, 1) := by decide +kernel
theorem dX8_readMoves_25 : decode cX8_readMoves 25 = .ok (.aload_n 0, 1) := by decide +kernel
theorem dX8_readMoves_26 : decode cX8_readMoves 26 = .ok (.getfield 44, 3) := by decide +kernel
theorem dX8_readMoves_29 : decode cX8_readMoves 29 = .ok (.getfield 91, 3) := by decide +kernel
theorem dX8_readMoves_32 : decode cX8_readMoves 32 = .ok (.iload_n 2, 1) := by decide +kernel
theorem dX8_readMoves_33 : decode cX8_readMoves 33 = .ok (.iadd, 1) := by decide +kernel
theorem dX8_readMoves_34 : decode cX8_readMoves 34 = .ok (.sipush 200, 3) := by decide +kernel
theorem dX8_readMoves_37 : decode cX8_readMoves 37 = .ok (.if_icmp .le 6, 3) := by decide +kernel
theorem dX8_readMoves_40 : decode cX8_readMoves 40 = .ok (.bipush (-5), 2) := by decide +kernel
theorem dX8_readMoves_42 : decode cX8_readMoves 42 = .ok (.ireturn, 1) := by decide +kernel
theorem dX8_readMoves_43 : decode cX8_readMoves 43 = .ok (.iconst 0, 1) := by decide +kernel
theorem dX8_readMoves_44 : decode cX8_readMoves 44 = .ok (.istore_n 3, 1) := by decide +kernel
theorem dX8_readMoves_45 : decode cX8_readMoves 45 = .ok (.iload_n 3, 1) := by decide +kernel
theorem dX8_readMoves_46 : decode cX8_readMoves 46 = .ok (.iload_n 2, 1) := by decide +kernel
theorem dX8_readMoves_47 : decode cX8_readMoves 47 = .ok (.if_icmp .ge 57, 3) := by decide +kernel
theorem dX8_readMoves_50 : decode cX8_readMoves 50 = .ok (.aload_n 0, 1) := by decide +kernel
theorem dX8_readMoves_51 : decode cX8_readMoves 51 = .ok (.getfield 10, 3) := by decide +kernel
theorem dX8_readMoves_54 : decode cX8_readMoves 54 = .ok (.iconst 2, 1) := by decide +kernel
theorem dX8_readMoves_55 : decode cX8_readMoves 55 = .ok (.iload_n 3, 1) := by decide +kernel
theorem dX8_readMoves_56 : decode cX8_readMoves 56 = .ok (.imul, 1) := by decide +kernel
theorem dX8_readMoves_57 : decode cX8_readMoves 57 = .ok (.invokevirtual 94, 3) := by decide +kernel
theorem dX8_readMoves_60 : decode cX8_readMoves 60 = .ok (.bipush 97, 2) := by decide +kernel
theorem dX8_readMoves_62 : decode cX8_readMoves 62 = .ok (.isub, 1) := by decide +kernel
theorem dX8_readMoves_63 : decode cX8_readMoves 63 = .ok (.istore 4, 2) := by decide +kernel
theorem dX8_readMoves_65 : decode cX8_readMoves 65 = .ok (.aload_n 0, 1) := by decide +kernel
theorem dX8_readMoves_66 : decode cX8_readMoves 66 = .ok (.getfield 10, 3) := by decide +kernel
theorem dX8_readMoves_69 : decode cX8_readMoves 69 = .ok (.iconst 2, 1) := by decide +kernel
theorem dX8_readMoves_70 : decode cX8_readMoves 70 = .ok (.iload_n 3, 1) := by decide +kernel
theorem dX8_readMoves_71 : decode cX8_readMoves 71 = .ok (.imul, 1) := by decide +kernel
theorem dX8_readMoves_72 : decode cX8_readMoves 72 = .ok (.iconst 1, 1) := by decide +kernel
theorem dX8_readMoves_73 : decode cX8_readMoves 73 = .ok (.iadd, 1) := by decide +kernel
theorem dX8_readMoves_74 : decode cX8_readMoves 74 = .ok (.invokevirtual 94, 3) := by decide +kernel
theorem dX8_readMoves_77 : decode cX8_readMoves 77 = .ok (.invokestatic 98, 3) := by decide +kernel
theorem dX8_readMoves_80 : decode cX8_readMoves 80 = .ok (.istore 5, 2) := by decide +kernel
theorem dX8_readMoves_82 : decode cX8_readMoves 82 = .ok (.aload_n 0, 1) := by decide +kernel
theorem dX8_readMoves_83 : decode cX8_readMoves 83 = .ok (.iload 4, 2) := by decide +kernel
theorem dX8_readMoves_85 : decode cX8_readMoves 85 = .ok (.iload 5, 2) := by decide +kernel
theorem dX8_readMoves_87 : decode cX8_readMoves 87 = .ok (.aload_n 0, 1) := by decide +kernel
theorem dX8_readMoves_88 : decode cX8_readMoves 88 = .ok (.iload 4, 2) := by decide +kernel
theorem dX8_readMoves_90 : decode cX8_readMoves 90 = .ok (.iload 5, 2) := by decide +kernel
theorem dX8_readMoves_92 : decode cX8_readMoves 92 = .ok (.invokevirtual 102, 3) := by decide +kernel
theorem dX8_readMoves_95 : decode cX8_readMoves 95 = .ok (.invokevirtual 106, 3) := by decide +kernel
theorem dX8_readMoves_98 : decode cX8_readMoves 98 = .ok (.iinc 3 1, 3) := by decide +kernel
theorem dX8_readMoves_101 : decode cX8_readMoves 101 = .ok (.goto (-56), 3) := by decide +kernel
theorem dX8_readMoves_104 : decode cX8_readMoves 104 = .ok (.iload_n 2, 1) := by decide +kernel
theorem dX8_readMoves_105 : decode cX8_readMoves 105 = .ok (.ireturn, 1) := by decide +kernel
theorem dX8_size_0 : decode cX8_size 0 = .ok (.iload_n 1, 1) := by decide +kernel
theorem dX8_size_1 : decode cX8_size 1 = .ok (.tableswitch 69 0 3 #[31, 42, 53, 61], 31) := by decide +kernel
theorem dX8_size_32 : decode cX8_size 32 = .ok (.aload_n 0, 1) := by decide +kernel
theorem dX8_size_33 : decode cX8_size 33 = .ok (.getfield 19, 3) := by decide +kernel
theorem dX8_size_36 : decode cX8_size 36 = .ok (.getfield 110, 3) := by decide +kernel
theorem dX8_size_39 : decode cX8_size 39 = .ok (.getfield 114, 3) := by decide +kernel
theorem dX8_size_42 : decode cX8_size 42 = .ok (.ireturn, 1) := by decide +kernel
theorem dX8_size_43 : decode cX8_size 43 = .ok (.aload_n 0, 1) := by decide +kernel
theorem dX8_size_44 : decode cX8_size 44 = .ok (.getfield 19, 3) := by decide +kernel
theorem dX8_size_47 : decode cX8_size 47 = .ok (.getfield 110, 3) := by decide +kernel
theorem dX8_size_50 : decode cX8_size 50 = .ok (.getfield 119, 3) := by decide +kernel
theorem dX8_size_53 : decode cX8_size 53 = .ok (.ireturn, 1) := by decide +kernel
theorem dX8_size_54 : decode cX8_size 54 = .ok (.aload_n 0, 1) := by decide +kernel
theorem dX8_size_55 : decode cX8_size 55 = .ok (.getfield 19, 3) := by decide +kernel
theorem dX8_size_58 : decode cX8_size 58 = .ok (.invokevirtual 85, 3) := by decide +kernel
theorem dX8_size_61 : decode cX8_size 61 = .ok (.ireturn, 1) := by decide +kernel
theorem dX8_size_62 : decode cX8_size 62 = .ok (.aload_n 0, 1) := by decide +kernel
theorem dX8_size_63 : decode cX8_size 63 = .ok (.getfield 19, 3) := by decide +kernel
theorem dX8_size_66 : decode cX8_size 66 = .ok (.getfield 122, 3) := by decide +kernel
theorem dX8_size_69 : decode cX8_size 69 = .ok (.ireturn, 1) := by decide +kernel
theorem dX8_size_70 : decode cX8_size 70 = .ok (.bipush (-3), 2) := by decide +kernel
theorem dX8_size_72 : decode cX8_size 72 = .ok (.ireturn, 1) := by decide +kernel
theorem dX8_cell_0 : decode cX8_cell 0 = .ok (.aload_n 0, 1) := by decide +kernel
theorem dX8_cell_1 : decode cX8_cell 1 = .ok (.getfield 19, 3) := by decide +kernel
theorem dX8_cell_4 : decode cX8_cell 4 = .ok (.getfield 110, 3) := by decide +kernel
theorem dX8_cell_7 : decode cX8_cell 7 = .ok (.iload_n 1, 1) := by decide +kernel
theorem dX8_cell_8 : decode cX8_cell 8 = .ok (.iload_n 2, 1) := by decide +kernel
theorem dX8_cell_9 : decode cX8_cell 9 = .ok (.invokevirtual 125, 3) := by decide +kernel
theorem dX8_cell_12 : decode cX8_cell 12 = .ok (.istore_n 3, 1) := by decide +kernel
theorem dX8_cell_13 : decode cX8_cell 13 = .ok (.iload_n 3, 1) := by decide +kernel
theorem dX8_cell_14 : decode cX8_cell 14 = .ok (.ifCond .ge 8, 3) := by decide +kernel
theorem dX8_cell_17 : decode cX8_cell 17 = .ok (.bipush (-2), 2) := by decide +kernel
theorem dX8_cell_19 : decode cX8_cell 19 = .ok (.goto 15, 3) := by decide +kernel
theorem dX8_cell_22 : decode cX8_cell 22 = .ok (.aload_n 0, 1) := by decide +kernel
theorem dX8_cell_23 : decode cX8_cell 23 = .ok (.getfield 19, 3) := by decide +kernel
theorem dX8_cell_26 : decode cX8_cell 26 = .ok (.getfield 110, 3) := by decide +kernel
theorem dX8_cell_29 : decode cX8_cell 29 = .ok (.getfield 128, 3) := by decide +kernel
theorem dX8_cell_32 : decode cX8_cell 32 = .ok (.iload_n 3, 1) := by decide +kernel
theorem dX8_cell_33 : decode cX8_cell 33 = .ok (.iaload, 1) := by decide +kernel
theorem dX8_cell_34 : decode cX8_cell 34 = .ok (.ireturn, 1) := by decide +kernel
theorem dX8_blockAt_0 : decode cX8_blockAt 0 = .ok (.aload_n 0, 1) := by decide +kernel
theorem dX8_blockAt_1 : decode cX8_blockAt 1 = .ok (.getfield 19, 3) := by decide +kernel
theorem dX8_blockAt_4 : decode cX8_blockAt 4 = .ok (.getfield 110, 3) := by decide +kernel
theorem dX8_blockAt_7 : decode cX8_blockAt 7 = .ok (.iload_n 1, 1) := by decide +kernel
theorem dX8_blockAt_8 : decode cX8_blockAt 8 = .ok (.iload_n 2, 1) := by decide +kernel
theorem dX8_blockAt_9 : decode cX8_blockAt 9 = .ok (.invokevirtual 125, 3) := by decide +kernel
theorem dX8_blockAt_12 : decode cX8_blockAt 12 = .ok (.istore_n 3, 1) := by decide +kernel
theorem dX8_blockAt_13 : decode cX8_blockAt 13 = .ok (.iload_n 3, 1) := by decide +kernel
theorem dX8_blockAt_14 : decode cX8_blockAt 14 = .ok (.ifCond .ge 6, 3) := by decide +kernel
theorem dX8_blockAt_17 : decode cX8_blockAt 17 = .ok (.bipush (-2), 2) := by decide +kernel
theorem dX8_blockAt_19 : decode cX8_blockAt 19 = .ok (.ireturn, 1) := by decide +kernel
theorem dX8_blockAt_20 : decode cX8_blockAt 20 = .ok (.aload_n 0, 1) := by decide +kernel
theorem dX8_blockAt_21 : decode cX8_blockAt 21 = .ok (.getfield 37, 3) := by decide +kernel
theorem dX8_blockAt_24 : decode cX8_blockAt 24 = .ok (.aload_n 0, 1) := by decide +kernel
theorem dX8_blockAt_25 : decode cX8_blockAt 25 = .ok (.getfield 44, 3) := by decide +kernel
theorem dX8_blockAt_28 : decode cX8_blockAt 28 = .ok (.invokevirtual 132, 3) := by decide +kernel
theorem dX8_blockAt_31 : decode cX8_blockAt 31 = .ok (.invokevirtual 136, 3) := by decide +kernel
theorem dX8_blockAt_34 : decode cX8_blockAt 34 = .ok (.iconst 0, 1) := by decide +kernel
theorem dX8_blockAt_35 : decode cX8_blockAt 35 = .ok (.istore 4, 2) := by decide +kernel
theorem dX8_blockAt_37 : decode cX8_blockAt 37 = .ok (.iload 4, 2) := by decide +kernel
theorem dX8_blockAt_39 : decode cX8_blockAt 39 = .ok (.iconst 5, 1) := by decide +kernel
theorem dX8_blockAt_40 : decode cX8_blockAt 40 = .ok (.if_icmp .ge 29, 3) := by decide +kernel
theorem dX8_blockAt_43 : decode cX8_blockAt 43 = .ok (.aload_n 0, 1) := by decide +kernel
theorem dX8_blockAt_44 : decode cX8_blockAt 44 = .ok (.getfield 37, 3) := by decide +kernel
theorem dX8_blockAt_47 : decode cX8_blockAt 47 = .ok (.getfield 139, 3) := by decide +kernel
theorem dX8_blockAt_50 : decode cX8_blockAt 50 = .ok (.iload 4, 2) := by decide +kernel
theorem dX8_blockAt_52 : decode cX8_blockAt 52 = .ok (.laload, 1) := by decide +kernel
theorem dX8_blockAt_53 : decode cX8_blockAt 53 = .ok (.iload_n 3, 1) := by decide +kernel
theorem dX8_blockAt_54 : decode cX8_blockAt 54 = .ok (.invokestatic 142, 3) := by decide +kernel
theorem dX8_blockAt_57 : decode cX8_blockAt 57 = .ok (.ifCond .eq 6, 3) := by decide +kernel
theorem dX8_blockAt_60 : decode cX8_blockAt 60 = .ok (.iload 4, 2) := by decide +kernel
theorem dX8_blockAt_62 : decode cX8_blockAt 62 = .ok (.ireturn, 1) := by decide +kernel
theorem dX8_blockAt_63 : decode cX8_blockAt 63 = .ok (.iinc 4 1, 3) := by decide +kernel
theorem dX8_blockAt_66 : decode cX8_blockAt 66 = .ok (.goto (-29), 3) := by decide +kernel
theorem dX8_blockAt_69 : decode cX8_blockAt 69 = .ok (.bipush (-7), 2) := by decide +kernel
theorem dX8_blockAt_71 : decode cX8_blockAt 71 = .ok (.ireturn, 1) := by decide +kernel
theorem dX8_block_0 : decode cX8_block 0 = .ok (.aload_n 0, 1) := by decide +kernel
theorem dX8_block_1 : decode cX8_block 1 = .ok (.getfield 19, 3) := by decide +kernel
theorem dX8_block_4 : decode cX8_block 4 = .ok (.iload_n 1, 1) := by decide +kernel
theorem dX8_block_5 : decode cX8_block 5 = .ok (.invokevirtual 146, 3) := by decide +kernel
theorem dX8_block_8 : decode cX8_block 8 = .ok (.ifCond .ne 5, 3) := by decide +kernel
theorem dX8_block_11 : decode cX8_block 11 = .ok (.iconst (-1), 1) := by decide +kernel
theorem dX8_block_12 : decode cX8_block 12 = .ok (.ireturn, 1) := by decide +kernel
theorem dX8_block_13 : decode cX8_block 13 = .ok (.iload_n 2, 1) := by decide +kernel
theorem dX8_block_14 : decode cX8_block 14 = .ok (.ifCond .lt 9, 3) := by decide +kernel
theorem dX8_block_17 : decode cX8_block 17 = .ok (.iload_n 2, 1) := by decide +kernel
theorem dX8_block_18 : decode cX8_block 18 = .ok (.bipush 7, 2) := by decide +kernel
theorem dX8_block_20 : decode cX8_block 20 = .ok (.if_icmp .le 6, 3) := by decide +kernel
theorem dX8_block_23 : decode cX8_block 23 = .ok (.bipush (-3), 2) := by decide +kernel
theorem dX8_block_25 : decode cX8_block 25 = .ok (.ireturn, 1) := by decide +kernel
theorem dX8_block_26 : decode cX8_block 26 = .ok (.aload_n 0, 1) := by decide +kernel
theorem dX8_block_27 : decode cX8_block 27 = .ok (.getfield 19, 3) := by decide +kernel
theorem dX8_block_30 : decode cX8_block 30 = .ok (.getfield 150, 3) := by decide +kernel
theorem dX8_block_33 : decode cX8_block 33 = .ok (.iload_n 1, 1) := by decide +kernel
theorem dX8_block_34 : decode cX8_block 34 = .ok (.aaload, 1) := by decide +kernel
theorem dX8_block_35 : decode cX8_block 35 = .ok (.astore_n 3, 1) := by decide +kernel
theorem dX8_block_36 : decode cX8_block 36 = .ok (.iload_n 2, 1) := by decide +kernel
theorem dX8_block_37 : decode cX8_block 37 = .ok (.iconst 5, 1) := by decide +kernel
theorem dX8_block_38 : decode cX8_block 38 = .ok (.if_icmp .lt 11, 3) := by decide +kernel
theorem dX8_block_41 : decode cX8_block 41 = .ok (.aload_n 3, 1) := by decide +kernel
theorem dX8_block_42 : decode cX8_block 42 = .ok (.iload_n 2, 1) := by decide +kernel
theorem dX8_block_43 : decode cX8_block 43 = .ok (.iconst 5, 1) := by decide +kernel
theorem dX8_block_44 : decode cX8_block 44 = .ok (.isub, 1) := by decide +kernel
theorem dX8_block_45 : decode cX8_block 45 = .ok (.invokevirtual 154, 3) := by decide +kernel
theorem dX8_block_48 : decode cX8_block 48 = .ok (.ireturn, 1) := by decide +kernel
theorem dX8_block_49 : decode cX8_block 49 = .ok (.aload_n 0, 1) := by decide +kernel
theorem dX8_block_50 : decode cX8_block 50 = .ok (.getfield 44, 3) := by decide +kernel
theorem dX8_block_53 : decode cX8_block 53 = .ok (.invokevirtual 132, 3) := by decide +kernel
theorem dX8_block_56 : decode cX8_block 56 = .ok (.iload_n 1, 1) := by decide +kernel
theorem dX8_block_57 : decode cX8_block 57 = .ok (.invokestatic 160, 3) := by decide +kernel
theorem dX8_block_60 : decode cX8_block 60 = .ok (.istore 4, 2) := by decide +kernel
theorem dX8_block_62 : decode cX8_block 62 = .ok (.iload_n 2, 1) := by decide +kernel
theorem dX8_block_63 : decode cX8_block 63 = .ok (.tableswitch 52 0 3 #[29, 35, 41, 47], 29) := by decide +kernel
theorem dX8_block_92 : decode cX8_block 92 = .ok (.iload 4, 2) := by decide +kernel
theorem dX8_block_94 : decode cX8_block 94 = .ok (.invokestatic 164, 3) := by decide +kernel
theorem dX8_block_97 : decode cX8_block 97 = .ok (.ireturn, 1) := by decide +kernel
theorem dX8_block_98 : decode cX8_block 98 = .ok (.iload 4, 2) := by decide +kernel
theorem dX8_block_100 : decode cX8_block 100 = .ok (.invokestatic 167, 3) := by decide +kernel
theorem dX8_block_103 : decode cX8_block 103 = .ok (.ireturn, 1) := by decide +kernel
theorem dX8_block_104 : decode cX8_block 104 = .ok (.iload 4, 2) := by decide +kernel
theorem dX8_block_106 : decode cX8_block 106 = .ok (.invokestatic 170, 3) := by decide +kernel
theorem dX8_block_109 : decode cX8_block 109 = .ok (.ireturn, 1) := by decide +kernel
theorem dX8_block_110 : decode cX8_block 110 = .ok (.aload_n 3, 1) := by decide +kernel
theorem dX8_block_111 : decode cX8_block 111 = .ok (.getfield 173, 3) := by decide +kernel
theorem dX8_block_114 : decode cX8_block 114 = .ok (.ireturn, 1) := by decide +kernel
theorem dX8_block_115 : decode cX8_block 115 = .ok (.aload_n 3, 1) := by decide +kernel
theorem dX8_block_116 : decode cX8_block 116 = .ok (.getfield 176, 3) := by decide +kernel
theorem dX8_block_119 : decode cX8_block 119 = .ok (.ireturn, 1) := by decide +kernel
theorem dX8_setWeight_0 : decode cX8_setWeight 0 = .ok (.aload_n 0, 1) := by decide +kernel
theorem dX8_setWeight_1 : decode cX8_setWeight 1 = .ok (.getfield 19, 3) := by decide +kernel
theorem dX8_setWeight_4 : decode cX8_setWeight 4 = .ok (.iload_n 1, 1) := by decide +kernel
theorem dX8_setWeight_5 : decode cX8_setWeight 5 = .ok (.invokevirtual 146, 3) := by decide +kernel
theorem dX8_setWeight_8 : decode cX8_setWeight 8 = .ok (.ifCond .ne 5, 3) := by decide +kernel
theorem dX8_setWeight_11 : decode cX8_setWeight 11 = .ok (.iconst (-1), 1) := by decide +kernel
theorem dX8_setWeight_12 : decode cX8_setWeight 12 = .ok (.ireturn, 1) := by decide +kernel
theorem dX8_setWeight_13 : decode cX8_setWeight 13 = .ok (.iload_n 2, 1) := by decide +kernel
theorem dX8_setWeight_14 : decode cX8_setWeight 14 = .ok (.iconst 1, 1) := by decide +kernel
theorem dX8_setWeight_15 : decode cX8_setWeight 15 = .ok (.if_icmp .lt 9, 3) := by decide +kernel
theorem dX8_setWeight_18 : decode cX8_setWeight 18 = .ok (.iload_n 2, 1) := by decide +kernel
theorem dX8_setWeight_19 : decode cX8_setWeight 19 = .ok (.bipush 9, 2) := by decide +kernel
theorem dX8_setWeight_21 : decode cX8_setWeight 21 = .ok (.if_icmp .le 6, 3) := by decide +kernel
theorem dX8_setWeight_24 : decode cX8_setWeight 24 = .ok (.bipush (-3), 2) := by decide +kernel
theorem dX8_setWeight_26 : decode cX8_setWeight 26 = .ok (.ireturn, 1) := by decide +kernel
theorem dX8_setWeight_27 : decode cX8_setWeight 27 = .ok (.aload_n 0, 1) := by decide +kernel
theorem dX8_setWeight_28 : decode cX8_setWeight 28 = .ok (.getfield 19, 3) := by decide +kernel
theorem dX8_setWeight_31 : decode cX8_setWeight 31 = .ok (.getfield 150, 3) := by decide +kernel
theorem dX8_setWeight_34 : decode cX8_setWeight 34 = .ok (.iload_n 1, 1) := by decide +kernel
theorem dX8_setWeight_35 : decode cX8_setWeight 35 = .ok (.aaload, 1) := by decide +kernel
theorem dX8_setWeight_36 : decode cX8_setWeight 36 = .ok (.getfield 173, 3) := by decide +kernel
theorem dX8_setWeight_39 : decode cX8_setWeight 39 = .ok (.istore_n 3, 1) := by decide +kernel
theorem dX8_setWeight_40 : decode cX8_setWeight 40 = .ok (.aload_n 0, 1) := by decide +kernel
theorem dX8_setWeight_41 : decode cX8_setWeight 41 = .ok (.getfield 19, 3) := by decide +kernel
theorem dX8_setWeight_44 : decode cX8_setWeight 44 = .ok (.getfield 150, 3) := by decide +kernel
theorem dX8_setWeight_47 : decode cX8_setWeight 47 = .ok (.iload_n 1, 1) := by decide +kernel
theorem dX8_setWeight_48 : decode cX8_setWeight 48 = .ok (.aaload, 1) := by decide +kernel
theorem dX8_setWeight_49 : decode cX8_setWeight 49 = .ok (.iload_n 2, 1) := by decide +kernel
theorem dX8_setWeight_50 : decode cX8_setWeight 50 = .ok (.putfield 173, 3) := by decide +kernel
theorem dX8_setWeight_53 : decode cX8_setWeight 53 = .ok (.aload_n 0, 1) := by decide +kernel
theorem dX8_setWeight_54 : decode cX8_setWeight 54 = .ok (.getfield 51, 3) := by decide +kernel
theorem dX8_setWeight_57 : decode cX8_setWeight 57 = .ok (.invokevirtual 82, 3) := by decide +kernel
theorem dX8_setWeight_60 : decode cX8_setWeight 60 = .ok (.iload_n 3, 1) := by decide +kernel
theorem dX8_setWeight_61 : decode cX8_setWeight 61 = .ok (.ireturn, 1) := by decide +kernel
theorem dX8_setGoal_0 : decode cX8_setGoal 0 = .ok (.aload_n 0, 1) := by decide +kernel
theorem dX8_setGoal_1 : decode cX8_setGoal 1 = .ok (.getfield 19, 3) := by decide +kernel
theorem dX8_setGoal_4 : decode cX8_setGoal 4 = .ok (.iload_n 1, 1) := by decide +kernel
theorem dX8_setGoal_5 : decode cX8_setGoal 5 = .ok (.invokevirtual 146, 3) := by decide +kernel
theorem dX8_setGoal_8 : decode cX8_setGoal 8 = .ok (.ifCond .ne 5, 3) := by decide +kernel
theorem dX8_setGoal_11 : decode cX8_setGoal 11 = .ok (.iconst (-1), 1) := by decide +kernel
theorem dX8_setGoal_12 : decode cX8_setGoal 12 = .ok (.ireturn, 1) := by decide +kernel
theorem dX8_setGoal_13 : decode cX8_setGoal 13 = .ok (.aload_n 0, 1) := by decide +kernel
theorem dX8_setGoal_14 : decode cX8_setGoal 14 = .ok (.getfield 19, 3) := by decide +kernel
theorem dX8_setGoal_17 : decode cX8_setGoal 17 = .ok (.getfield 110, 3) := by decide +kernel
theorem dX8_setGoal_20 : decode cX8_setGoal 20 = .ok (.iload_n 2, 1) := by decide +kernel
theorem dX8_setGoal_21 : decode cX8_setGoal 21 = .ok (.iload_n 3, 1) := by decide +kernel
theorem dX8_setGoal_22 : decode cX8_setGoal 22 = .ok (.invokevirtual 125, 3) := by decide +kernel
theorem dX8_setGoal_25 : decode cX8_setGoal 25 = .ok (.istore 5, 2) := by decide +kernel
theorem dX8_setGoal_27 : decode cX8_setGoal 27 = .ok (.iload 5, 2) := by decide +kernel
theorem dX8_setGoal_29 : decode cX8_setGoal 29 = .ok (.ifCond .ge 6, 3) := by decide +kernel
theorem dX8_setGoal_32 : decode cX8_setGoal 32 = .ok (.bipush (-2), 2) := by decide +kernel
theorem dX8_setGoal_34 : decode cX8_setGoal 34 = .ok (.ireturn, 1) := by decide +kernel
theorem dX8_setGoal_35 : decode cX8_setGoal 35 = .ok (.iload 4, 2) := by decide +kernel
theorem dX8_setGoal_37 : decode cX8_setGoal 37 = .ok (.ifCond .lt 9, 3) := by decide +kernel
theorem dX8_setGoal_40 : decode cX8_setGoal 40 = .ok (.iload 4, 2) := by decide +kernel
theorem dX8_setGoal_42 : decode cX8_setGoal 42 = .ok (.iconst 4, 1) := by decide +kernel
theorem dX8_setGoal_43 : decode cX8_setGoal 43 = .ok (.if_icmp .le 6, 3) := by decide +kernel
theorem dX8_setGoal_46 : decode cX8_setGoal 46 = .ok (.bipush (-3), 2) := by decide +kernel
theorem dX8_setGoal_48 : decode cX8_setGoal 48 = .ok (.ireturn, 1) := by decide +kernel
theorem dX8_setGoal_49 : decode cX8_setGoal 49 = .ok (.aload_n 0, 1) := by decide +kernel
theorem dX8_setGoal_50 : decode cX8_setGoal 50 = .ok (.getfield 19, 3) := by decide +kernel
theorem dX8_setGoal_53 : decode cX8_setGoal 53 = .ok (.getfield 150, 3) := by decide +kernel
theorem dX8_setGoal_56 : decode cX8_setGoal 56 = .ok (.iload_n 1, 1) := by decide +kernel
theorem dX8_setGoal_57 : decode cX8_setGoal 57 = .ok (.aaload, 1) := by decide +kernel
theorem dX8_setGoal_58 : decode cX8_setGoal 58 = .ok (.astore 6, 2) := by decide +kernel
theorem dX8_setGoal_60 : decode cX8_setGoal 60 = .ok (.aload 6, 2) := by decide +kernel
theorem dX8_setGoal_62 : decode cX8_setGoal 62 = .ok (.getfield 179, 3) := by decide +kernel
theorem dX8_setGoal_65 : decode cX8_setGoal 65 = .ok (.iload 5, 2) := by decide +kernel
theorem dX8_setGoal_67 : decode cX8_setGoal 67 = .ok (.if_icmp .ne 15, 3) := by decide +kernel
theorem dX8_setGoal_70 : decode cX8_setGoal 70 = .ok (.aload 6, 2) := by decide +kernel
theorem dX8_setGoal_72 : decode cX8_setGoal 72 = .ok (.getfield 182, 3) := by decide +kernel
theorem dX8_setGoal_75 : decode cX8_setGoal 75 = .ok (.iload 4, 2) := by decide +kernel
theorem dX8_setGoal_77 : decode cX8_setGoal 77 = .ok (.if_icmp .ne 5, 3) := by decide +kernel
theorem dX8_setGoal_80 : decode cX8_setGoal 80 = .ok (.iconst 0, 1) := by decide +kernel
theorem dX8_setGoal_81 : decode cX8_setGoal 81 = .ok (.ireturn, 1) := by decide +kernel
theorem dX8_setGoal_82 : decode cX8_setGoal 82 = .ok (.aload 6, 2) := by decide +kernel
theorem dX8_setGoal_84 : decode cX8_setGoal 84 = .ok (.iload 5, 2) := by decide +kernel
theorem dX8_setGoal_86 : decode cX8_setGoal 86 = .ok (.iload 4, 2) := by decide +kernel
theorem dX8_setGoal_88 : decode cX8_setGoal 88 = .ok (.invokevirtual 185, 3) := by decide +kernel
theorem dX8_setGoal_91 : decode cX8_setGoal 91 = .ok (.aload 6, 2) := by decide +kernel
theorem dX8_setGoal_93 : decode cX8_setGoal 93 = .ok (.aload_n 0, 1) := by decide +kernel
theorem dX8_setGoal_94 : decode cX8_setGoal 94 = .ok (.getfield 19, 3) := by decide +kernel
theorem dX8_setGoal_97 : decode cX8_setGoal 97 = .ok (.getfield 110, 3) := by decide +kernel
theorem dX8_setGoal_100 : decode cX8_setGoal 100 = .ok (.aload_n 0, 1) := by decide +kernel
theorem dX8_setGoal_101 : decode cX8_setGoal 101 = .ok (.getfield 19, 3) := by decide +kernel
theorem dX8_setGoal_104 : decode cX8_setGoal 104 = .ok (.getfield 189, 3) := by decide +kernel
theorem dX8_setGoal_107 : decode cX8_setGoal 107 = .ok (.invokevirtual 192, 3) := by decide +kernel
theorem dX8_setGoal_110 : decode cX8_setGoal 110 = .ok (.aload_n 0, 1) := by decide +kernel
theorem dX8_setGoal_111 : decode cX8_setGoal 111 = .ok (.getfield 51, 3) := by decide +kernel
theorem dX8_setGoal_114 : decode cX8_setGoal 114 = .ok (.invokevirtual 82, 3) := by decide +kernel
theorem dX8_setGoal_117 : decode cX8_setGoal 117 = .ok (.iconst 1, 1) := by decide +kernel
theorem dX8_setGoal_118 : decode cX8_setGoal 118 = .ok (.ireturn, 1) := by decide +kernel
theorem dX8_clearGoal_0 : decode cX8_clearGoal 0 = .ok (.aload_n 0, 1) := by decide +kernel
theorem dX8_clearGoal_1 : decode cX8_clearGoal 1 = .ok (.getfield 19, 3) := by decide +kernel
theorem dX8_clearGoal_4 : decode cX8_clearGoal 4 = .ok (.iload_n 1, 1) := by decide +kernel
theorem dX8_clearGoal_5 : decode cX8_clearGoal 5 = .ok (.invokevirtual 146, 3) := by decide +kernel
theorem dX8_clearGoal_8 : decode cX8_clearGoal 8 = .ok (.ifCond .ne 5, 3) := by decide +kernel
theorem dX8_clearGoal_11 : decode cX8_clearGoal 11 = .ok (.iconst (-1), 1) := by decide +kernel
theorem dX8_clearGoal_12 : decode cX8_clearGoal 12 = .ok (.ireturn, 1) := by decide +kernel
theorem dX8_clearGoal_13 : decode cX8_clearGoal 13 = .ok (.aload_n 0, 1) := by decide +kernel
theorem dX8_clearGoal_14 : decode cX8_clearGoal 14 = .ok (.getfield 19, 3) := by decide +kernel
theorem dX8_clearGoal_17 : decode cX8_clearGoal 17 = .ok (.getfield 150, 3) := by decide +kernel
theorem dX8_clearGoal_20 : decode cX8_clearGoal 20 = .ok (.iload_n 1, 1) := by decide +kernel
theorem dX8_clearGoal_21 : decode cX8_clearGoal 21 = .ok (.aaload, 1) := by decide +kernel
theorem dX8_clearGoal_22 : decode cX8_clearGoal 22 = .ok (.invokevirtual 196, 3) := by decide +kernel
theorem dX8_clearGoal_25 : decode cX8_clearGoal 25 = .ok (.ifCond .ne 5, 3) := by decide +kernel
theorem dX8_clearGoal_28 : decode cX8_clearGoal 28 = .ok (.iconst 0, 1) := by decide +kernel
theorem dX8_clearGoal_29 : decode cX8_clearGoal 29 = .ok (.ireturn, 1) := by decide +kernel
theorem dX8_clearGoal_30 : decode cX8_clearGoal 30 = .ok (.aload_n 0, 1) := by decide +kernel
theorem dX8_clearGoal_31 : decode cX8_clearGoal 31 = .ok (.getfield 19, 3) := by decide +kernel
theorem dX8_clearGoal_34 : decode cX8_clearGoal 34 = .ok (.getfield 150, 3) := by decide +kernel
theorem dX8_clearGoal_37 : decode cX8_clearGoal 37 = .ok (.iload_n 1, 1) := by decide +kernel
theorem dX8_clearGoal_38 : decode cX8_clearGoal 38 = .ok (.aaload, 1) := by decide +kernel
theorem dX8_clearGoal_39 : decode cX8_clearGoal 39 = .ok (.invokevirtual 200, 3) := by decide +kernel
theorem dX8_clearGoal_42 : decode cX8_clearGoal 42 = .ok (.aload_n 0, 1) := by decide +kernel
theorem dX8_clearGoal_43 : decode cX8_clearGoal 43 = .ok (.getfield 51, 3) := by decide +kernel
theorem dX8_clearGoal_46 : decode cX8_clearGoal 46 = .ok (.invokevirtual 82, 3) := by decide +kernel
theorem dX8_clearGoal_49 : decode cX8_clearGoal 49 = .ok (.iconst 1, 1) := by decide +kernel
theorem dX8_clearGoal_50 : decode cX8_clearGoal 50 = .ok (.ireturn, 1) := by decide +kernel
theorem dX8_setThreshold_0 : decode cX8_setThreshold 0 = .ok (.iload_n 1, 1) := by decide +kernel
theorem dX8_setThreshold_1 : decode cX8_setThreshold 1 = .ok (.invokestatic 203, 3) := by decide +kernel
theorem dX8_setThreshold_4 : decode cX8_setThreshold 4 = .ok (.ifCond .eq 14, 3) := by decide +kernel
theorem dX8_setThreshold_7 : decode cX8_setThreshold 7 = .ok (.iload_n 2, 1) := by decide +kernel
theorem dX8_setThreshold_8 : decode cX8_setThreshold 8 = .ok (.iconst 1, 1) := by decide +kernel
theorem dX8_setThreshold_9 : decode cX8_setThreshold 9 = .ok (.if_icmp .lt 9, 3) := by decide +kernel
theorem dX8_setThreshold_12 : decode cX8_setThreshold 12 = .ok (.iload_n 2, 1) := by decide +kernel
theorem dX8_setThreshold_13 : decode cX8_setThreshold 13 = .ok (.bipush 45, 2) := by decide +kernel
theorem dX8_setThreshold_15 : decode cX8_setThreshold 15 = .ok (.if_icmp .le 6, 3) := by decide +kernel
theorem dX8_setThreshold_18 : decode cX8_setThreshold 18 = .ok (.bipush (-3), 2) := by decide +kernel
theorem dX8_setThreshold_20 : decode cX8_setThreshold 20 = .ok (.ireturn, 1) := by decide +kernel
theorem dX8_setThreshold_21 : decode cX8_setThreshold 21 = .ok (.aload_n 0, 1) := by decide +kernel
theorem dX8_setThreshold_22 : decode cX8_setThreshold 22 = .ok (.getfield 19, 3) := by decide +kernel
theorem dX8_setThreshold_25 : decode cX8_setThreshold 25 = .ok (.getfield 206, 3) := by decide +kernel
theorem dX8_setThreshold_28 : decode cX8_setThreshold 28 = .ok (.iload_n 1, 1) := by decide +kernel
theorem dX8_setThreshold_29 : decode cX8_setThreshold 29 = .ok (.iaload, 1) := by decide +kernel
theorem dX8_setThreshold_30 : decode cX8_setThreshold 30 = .ok (.istore_n 3, 1) := by decide +kernel
theorem dX8_setThreshold_31 : decode cX8_setThreshold 31 = .ok (.aload_n 0, 1) := by decide +kernel
theorem dX8_setThreshold_32 : decode cX8_setThreshold 32 = .ok (.getfield 19, 3) := by decide +kernel
theorem dX8_setThreshold_35 : decode cX8_setThreshold 35 = .ok (.getfield 206, 3) := by decide +kernel
theorem dX8_setThreshold_38 : decode cX8_setThreshold 38 = .ok (.iload_n 1, 1) := by decide +kernel
theorem dX8_setThreshold_39 : decode cX8_setThreshold 39 = .ok (.iload_n 2, 1) := by decide +kernel
theorem dX8_setThreshold_40 : decode cX8_setThreshold 40 = .ok (.iastore, 1) := by decide +kernel
theorem dX8_setThreshold_41 : decode cX8_setThreshold 41 = .ok (.aload_n 0, 1) := by decide +kernel
theorem dX8_setThreshold_42 : decode cX8_setThreshold 42 = .ok (.getfield 51, 3) := by decide +kernel
theorem dX8_setThreshold_45 : decode cX8_setThreshold 45 = .ok (.invokevirtual 82, 3) := by decide +kernel
theorem dX8_setThreshold_48 : decode cX8_setThreshold 48 = .ok (.iload_n 3, 1) := by decide +kernel
theorem dX8_setThreshold_49 : decode cX8_setThreshold 49 = .ok (.ireturn, 1) := by decide +kernel
theorem dX8_setStrength_0 : decode cX8_setStrength 0 = .ok (.iload_n 1, 1) := by decide +kernel
theorem dX8_setStrength_1 : decode cX8_setStrength 1 = .ok (.iconst 1, 1) := by decide +kernel
theorem dX8_setStrength_2 : decode cX8_setStrength 2 = .ok (.if_icmp .lt 9, 3) := by decide +kernel
theorem dX8_setStrength_5 : decode cX8_setStrength 5 = .ok (.iload_n 1, 1) := by decide +kernel
theorem dX8_setStrength_6 : decode cX8_setStrength 6 = .ok (.bipush 45, 2) := by decide +kernel
theorem dX8_setStrength_8 : decode cX8_setStrength 8 = .ok (.if_icmp .le 6, 3) := by decide +kernel
theorem dX8_setStrength_11 : decode cX8_setStrength 11 = .ok (.bipush (-3), 2) := by decide +kernel
theorem dX8_setStrength_13 : decode cX8_setStrength 13 = .ok (.ireturn, 1) := by decide +kernel
theorem dX8_setStrength_14 : decode cX8_setStrength 14 = .ok (.aload_n 0, 1) := by decide +kernel
theorem dX8_setStrength_15 : decode cX8_setStrength 15 = .ok (.getfield 19, 3) := by decide +kernel
theorem dX8_setStrength_18 : decode cX8_setStrength 18 = .ok (.getfield 122, 3) := by decide +kernel
theorem dX8_setStrength_21 : decode cX8_setStrength 21 = .ok (.istore_n 2, 1) := by decide +kernel
theorem dX8_setStrength_22 : decode cX8_setStrength 22 = .ok (.aload_n 0, 1) := by decide +kernel
theorem dX8_setStrength_23 : decode cX8_setStrength 23 = .ok (.getfield 19, 3) := by decide +kernel
theorem dX8_setStrength_26 : decode cX8_setStrength 26 = .ok (.iload_n 1, 1) := by decide +kernel
theorem dX8_setStrength_27 : decode cX8_setStrength 27 = .ok (.putfield 122, 3) := by decide +kernel
theorem dX8_setStrength_30 : decode cX8_setStrength 30 = .ok (.aload_n 0, 1) := by decide +kernel
theorem dX8_setStrength_31 : decode cX8_setStrength 31 = .ok (.getfield 51, 3) := by decide +kernel
theorem dX8_setStrength_34 : decode cX8_setStrength 34 = .ok (.invokevirtual 82, 3) := by decide +kernel
theorem dX8_setStrength_37 : decode cX8_setStrength 37 = .ok (.iload_n 2, 1) := by decide +kernel
theorem dX8_setStrength_38 : decode cX8_setStrength 38 = .ok (.ireturn, 1) := by decide +kernel
theorem dX8_load_0 : decode cX8_load 0 = .ok (.iload_n 1, 1) := by decide +kernel
theorem dX8_load_1 : decode cX8_load 1 = .ok (.invokestatic 203, 3) := by decide +kernel
theorem dX8_load_4 : decode cX8_load 4 = .ok (.ifCond .ne 6, 3) := by decide +kernel
theorem dX8_load_7 : decode cX8_load 7 = .ok (.bipush (-3), 2) := by decide +kernel
theorem dX8_load_9 : decode cX8_load 9 = .ok (.ireturn, 1) := by decide +kernel
theorem dX8_load_10 : decode cX8_load 10 = .ok (.aload_n 0, 1) := by decide +kernel
theorem dX8_load_11 : decode cX8_load 11 = .ok (.getfield 37, 3) := by decide +kernel
theorem dX8_load_14 : decode cX8_load 14 = .ok (.aload_n 0, 1) := by decide +kernel
theorem dX8_load_15 : decode cX8_load 15 = .ok (.getfield 44, 3) := by decide +kernel
theorem dX8_load_18 : decode cX8_load 18 = .ok (.invokevirtual 132, 3) := by decide +kernel
theorem dX8_load_21 : decode cX8_load 21 = .ok (.invokevirtual 136, 3) := by decide +kernel
theorem dX8_load_24 : decode cX8_load 24 = .ok (.aload_n 0, 1) := by decide +kernel
theorem dX8_load_25 : decode cX8_load 25 = .ok (.getfield 37, 3) := by decide +kernel
theorem dX8_load_28 : decode cX8_load 28 = .ok (.iload_n 1, 1) := by decide +kernel
theorem dX8_load_29 : decode cX8_load 29 = .ok (.invokevirtual 209, 3) := by decide +kernel
theorem dX8_load_32 : decode cX8_load 32 = .ok (.ireturn, 1) := by decide +kernel
theorem dX8_isOpen_0 : decode cX8_isOpen 0 = .ok (.iload_n 1, 1) := by decide +kernel
theorem dX8_isOpen_1 : decode cX8_isOpen 1 = .ok (.invokestatic 203, 3) := by decide +kernel
theorem dX8_isOpen_4 : decode cX8_isOpen 4 = .ok (.ifCond .ne 6, 3) := by decide +kernel
theorem dX8_isOpen_7 : decode cX8_isOpen 7 = .ok (.bipush (-3), 2) := by decide +kernel
theorem dX8_isOpen_9 : decode cX8_isOpen 9 = .ok (.ireturn, 1) := by decide +kernel
theorem dX8_isOpen_10 : decode cX8_isOpen 10 = .ok (.aload_n 0, 1) := by decide +kernel
theorem dX8_isOpen_11 : decode cX8_isOpen 11 = .ok (.getfield 37, 3) := by decide +kernel
theorem dX8_isOpen_14 : decode cX8_isOpen 14 = .ok (.aload_n 0, 1) := by decide +kernel
theorem dX8_isOpen_15 : decode cX8_isOpen 15 = .ok (.getfield 44, 3) := by decide +kernel
theorem dX8_isOpen_18 : decode cX8_isOpen 18 = .ok (.invokevirtual 132, 3) := by decide +kernel
theorem dX8_isOpen_21 : decode cX8_isOpen 21 = .ok (.invokevirtual 136, 3) := by decide +kernel
theorem dX8_isOpen_24 : decode cX8_isOpen 24 = .ok (.aload_n 0, 1) := by decide +kernel
theorem dX8_isOpen_25 : decode cX8_isOpen 25 = .ok (.getfield 37, 3) := by decide +kernel
theorem dX8_isOpen_28 : decode cX8_isOpen 28 = .ok (.iload_n 1, 1) := by decide +kernel
theorem dX8_isOpen_29 : decode cX8_isOpen 29 = .ok (.invokevirtual 209, 3) := by decide +kernel
theorem dX8_isOpen_32 : decode cX8_isOpen 32 = .ok (.aload_n 0, 1) := by decide +kernel
theorem dX8_isOpen_33 : decode cX8_isOpen 33 = .ok (.getfield 19, 3) := by decide +kernel
theorem dX8_isOpen_36 : decode cX8_isOpen 36 = .ok (.getfield 206, 3) := by decide +kernel
theorem dX8_isOpen_39 : decode cX8_isOpen 39 = .ok (.iload_n 1, 1) := by decide +kernel
theorem dX8_isOpen_40 : decode cX8_isOpen 40 = .ok (.iaload, 1) := by decide +kernel
theorem dX8_isOpen_41 : decode cX8_isOpen 41 = .ok (.if_icmp .lt 7, 3) := by decide +kernel
theorem dX8_isOpen_44 : decode cX8_isOpen 44 = .ok (.iconst 1, 1) := by decide +kernel
theorem dX8_isOpen_45 : decode cX8_isOpen 45 = .ok (.goto 4, 3) := by decide +kernel
theorem dX8_isOpen_48 : decode cX8_isOpen 48 = .ok (.iconst 0, 1) := by decide +kernel
theorem dX8_isOpen_49 : decode cX8_isOpen 49 = .ok (.ireturn, 1) := by decide +kernel
theorem dX8_moved_0 : decode cX8_moved 0 = .ok (.aload_n 0, 1) := by decide +kernel
theorem dX8_moved_1 : decode cX8_moved 1 = .ok (.getfield 19, 3) := by decide +kernel
theorem dX8_moved_4 : decode cX8_moved 4 = .ok (.iload_n 1, 1) := by decide +kernel
theorem dX8_moved_5 : decode cX8_moved 5 = .ok (.invokevirtual 146, 3) := by decide +kernel
theorem dX8_moved_8 : decode cX8_moved 8 = .ok (.ifCond .ne 5, 3) := by decide +kernel
theorem dX8_moved_11 : decode cX8_moved 11 = .ok (.iconst (-1), 1) := by decide +kernel
theorem dX8_moved_12 : decode cX8_moved 12 = .ok (.ireturn, 1) := by decide +kernel
theorem dX8_moved_13 : decode cX8_moved 13 = .ok (.iload_n 2, 1) := by decide +kernel
theorem dX8_moved_14 : decode cX8_moved 14 = .ok (.ifCond .lt 9, 3) := by decide +kernel
theorem dX8_moved_17 : decode cX8_moved 17 = .ok (.iload_n 2, 1) := by decide +kernel
theorem dX8_moved_18 : decode cX8_moved 18 = .ok (.bipush 6, 2) := by decide +kernel
theorem dX8_moved_20 : decode cX8_moved 20 = .ok (.if_icmp .lt 6, 3) := by decide +kernel
theorem dX8_moved_23 : decode cX8_moved 23 = .ok (.bipush (-3), 2) := by decide +kernel
theorem dX8_moved_25 : decode cX8_moved 25 = .ok (.ireturn, 1) := by decide +kernel
theorem dX8_moved_26 : decode cX8_moved 26 = .ok (.aload_n 0, 1) := by decide +kernel
theorem dX8_moved_27 : decode cX8_moved 27 = .ok (.iload_n 1, 1) := by decide +kernel
theorem dX8_moved_28 : decode cX8_moved 28 = .ok (.iload_n 2, 1) := by decide +kernel
theorem dX8_moved_29 : decode cX8_moved 29 = .ok (.invokevirtual 102, 3) := by decide +kernel
theorem dX8_moved_32 : decode cX8_moved 32 = .ok (.istore_n 3, 1) := by decide +kernel
theorem dX8_moved_33 : decode cX8_moved 33 = .ok (.iload_n 3, 1) := by decide +kernel
theorem dX8_moved_34 : decode cX8_moved 34 = .ok (.ifCond .ne 8, 3) := by decide +kernel
theorem dX8_moved_37 : decode cX8_moved 37 = .ok (.bipush (-4), 2) := by decide +kernel
theorem dX8_moved_39 : decode cX8_moved 39 = .ok (.goto 4, 3) := by decide +kernel
theorem dX8_moved_42 : decode cX8_moved 42 = .ok (.iload_n 3, 1) := by decide +kernel
theorem dX8_moved_43 : decode cX8_moved 43 = .ok (.ireturn, 1) := by decide +kernel
theorem dX8_move_0 : decode cX8_move 0 = .ok (.aload_n 0, 1) := by decide +kernel
theorem dX8_move_1 : decode cX8_move 1 = .ok (.iload_n 1, 1) := by decide +kernel
theorem dX8_move_2 : decode cX8_move 2 = .ok (.iload_n 2, 1) := by decide +kernel
theorem dX8_move_3 : decode cX8_move 3 = .ok (.invokevirtual 212, 3) := by decide +kernel
theorem dX8_move_6 : decode cX8_move 6 = .ok (.istore_n 3, 1) := by decide +kernel
theorem dX8_move_7 : decode cX8_move 7 = .ok (.iload_n 3, 1) := by decide +kernel
theorem dX8_move_8 : decode cX8_move 8 = .ok (.ifCond .ge 5, 3) := by decide +kernel
theorem dX8_move_11 : decode cX8_move 11 = .ok (.iload_n 3, 1) := by decide +kernel
theorem dX8_move_12 : decode cX8_move 12 = .ok (.ireturn, 1) := by decide +kernel
theorem dX8_move_13 : decode cX8_move 13 = .ok (.aload_n 0, 1) := by decide +kernel
theorem dX8_move_14 : decode cX8_move 14 = .ok (.getfield 44, 3) := by decide +kernel
theorem dX8_move_17 : decode cX8_move 17 = .ok (.getfield 91, 3) := by decide +kernel
theorem dX8_move_20 : decode cX8_move 20 = .ok (.sipush 200, 3) := by decide +kernel
theorem dX8_move_23 : decode cX8_move 23 = .ok (.if_icmp .lt 6, 3) := by decide +kernel
theorem dX8_move_26 : decode cX8_move 26 = .ok (.bipush (-5), 2) := by decide +kernel
theorem dX8_move_28 : decode cX8_move 28 = .ok (.ireturn, 1) := by decide +kernel
theorem dX8_move_29 : decode cX8_move 29 = .ok (.aload_n 0, 1) := by decide +kernel
theorem dX8_move_30 : decode cX8_move 30 = .ok (.iload_n 1, 1) := by decide +kernel
theorem dX8_move_31 : decode cX8_move 31 = .ok (.iload_n 2, 1) := by decide +kernel
theorem dX8_move_32 : decode cX8_move 32 = .ok (.iload_n 3, 1) := by decide +kernel
theorem dX8_move_33 : decode cX8_move 33 = .ok (.invokevirtual 106, 3) := by decide +kernel
theorem dX8_move_36 : decode cX8_move 36 = .ok (.aload_n 0, 1) := by decide +kernel
theorem dX8_move_37 : decode cX8_move 37 = .ok (.getfield 44, 3) := by decide +kernel
theorem dX8_move_40 : decode cX8_move 40 = .ok (.getfield 91, 3) := by decide +kernel
theorem dX8_move_43 : decode cX8_move 43 = .ok (.ireturn, 1) := by decide +kernel
theorem dX8_possibleCount_0 : decode cX8_possibleCount 0 = .ok (.aload_n 0, 1) := by decide +kernel
theorem dX8_possibleCount_1 : decode cX8_possibleCount 1 = .ok (.getfield 37, 3) := by decide +kernel
theorem dX8_possibleCount_4 : decode cX8_possibleCount 4 = .ok (.aload_n 0, 1) := by decide +kernel
theorem dX8_possibleCount_5 : decode cX8_possibleCount 5 = .ok (.getfield 44, 3) := by decide +kernel
theorem dX8_possibleCount_8 : decode cX8_possibleCount 8 = .ok (.invokevirtual 132, 3) := by decide +kernel
theorem dX8_possibleCount_11 : decode cX8_possibleCount 11 = .ok (.invokevirtual 136, 3) := by decide +kernel
theorem dX8_possibleCount_14 : decode cX8_possibleCount 14 = .ok (.iconst 0, 1) := by decide +kernel
theorem dX8_possibleCount_15 : decode cX8_possibleCount 15 = .ok (.istore_n 1, 1) := by decide +kernel
theorem dX8_possibleCount_16 : decode cX8_possibleCount 16 = .ok (.iconst 0, 1) := by decide +kernel
theorem dX8_possibleCount_17 : decode cX8_possibleCount 17 = .ok (.istore_n 2, 1) := by decide +kernel
theorem dX8_possibleCount_18 : decode cX8_possibleCount 18 = .ok (.iload_n 2, 1) := by decide +kernel
theorem dX8_possibleCount_19 : decode cX8_possibleCount 19 = .ok (.iconst 5, 1) := by decide +kernel
theorem dX8_possibleCount_20 : decode cX8_possibleCount 20 = .ok (.if_icmp .ge 38, 3) := by decide +kernel
theorem dX8_possibleCount_23 : decode cX8_possibleCount 23 = .ok (.iconst 0, 1) := by decide +kernel
theorem dX8_possibleCount_24 : decode cX8_possibleCount 24 = .ok (.istore_n 3, 1) := by decide +kernel
theorem dX8_possibleCount_25 : decode cX8_possibleCount 25 = .ok (.iload_n 3, 1) := by decide +kernel
theorem dX8_possibleCount_26 : decode cX8_possibleCount 26 = .ok (.bipush 6, 2) := by decide +kernel
theorem dX8_possibleCount_28 : decode cX8_possibleCount 28 = .ok (.if_icmp .ge 24, 3) := by decide +kernel
theorem dX8_possibleCount_31 : decode cX8_possibleCount 31 = .ok (.aload_n 0, 1) := by decide +kernel
theorem dX8_possibleCount_32 : decode cX8_possibleCount 32 = .ok (.getfield 37, 3) := by decide +kernel
theorem dX8_possibleCount_35 : decode cX8_possibleCount 35 = .ok (.iload_n 2, 1) := by decide +kernel
theorem dX8_possibleCount_36 : decode cX8_possibleCount 36 = .ok (.iload_n 3, 1) := by decide +kernel
theorem dX8_possibleCount_37 : decode cX8_possibleCount 37 = .ok (.invokevirtual 215, 3) := by decide +kernel
theorem dX8_possibleCount_40 : decode cX8_possibleCount 40 = .ok (.ifCond .eq 6, 3) := by decide +kernel
theorem dX8_possibleCount_43 : decode cX8_possibleCount 43 = .ok (.iinc 1 1, 3) := by decide +kernel
theorem dX8_possibleCount_46 : decode cX8_possibleCount 46 = .ok (.iinc 3 1, 3) := by decide +kernel
theorem dX8_possibleCount_49 : decode cX8_possibleCount 49 = .ok (.goto (-24), 3) := by decide +kernel
theorem dX8_possibleCount_52 : decode cX8_possibleCount 52 = .ok (.iinc 2 1, 3) := by decide +kernel
theorem dX8_possibleCount_55 : decode cX8_possibleCount 55 = .ok (.goto (-37), 3) := by decide +kernel
theorem dX8_possibleCount_58 : decode cX8_possibleCount 58 = .ok (.iload_n 1, 1) := by decide +kernel
theorem dX8_possibleCount_59 : decode cX8_possibleCount 59 = .ok (.ireturn, 1) := by decide +kernel
theorem dX8_possible_0 : decode cX8_possible 0 = .ok (.iload_n 1, 1) := by decide +kernel
theorem dX8_possible_1 : decode cX8_possible 1 = .ok (.ifCond .ge 6, 3) := by decide +kernel
theorem dX8_possible_4 : decode cX8_possible 4 = .ok (.bipush (-3), 2) := by decide +kernel
theorem dX8_possible_6 : decode cX8_possible 6 = .ok (.ireturn, 1) := by decide +kernel
theorem dX8_possible_7 : decode cX8_possible 7 = .ok (.aload_n 0, 1) := by decide +kernel
theorem dX8_possible_8 : decode cX8_possible 8 = .ok (.getfield 37, 3) := by decide +kernel
theorem dX8_possible_11 : decode cX8_possible 11 = .ok (.aload_n 0, 1) := by decide +kernel
theorem dX8_possible_12 : decode cX8_possible 12 = .ok (.getfield 44, 3) := by decide +kernel
theorem dX8_possible_15 : decode cX8_possible 15 = .ok (.invokevirtual 132, 3) := by decide +kernel
theorem dX8_possible_18 : decode cX8_possible 18 = .ok (.invokevirtual 136, 3) := by decide +kernel
theorem dX8_possible_21 : decode cX8_possible 21 = .ok (.iload_n 1, 1) := by decide +kernel
theorem dX8_possible_22 : decode cX8_possible 22 = .ok (.istore_n 2, 1) := by decide +kernel
theorem dX8_possible_23 : decode cX8_possible 23 = .ok (.iconst 0, 1) := by decide +kernel
theorem dX8_possible_24 : decode cX8_possible 24 = .ok (.istore_n 3, 1) := by decide +kernel
theorem dX8_possible_25 : decode cX8_possible 25 = .ok (.iload_n 3, 1) := by decide +kernel
theorem dX8_possible_26 : decode cX8_possible 26 = .ok (.iconst 5, 1) := by decide +kernel
theorem dX8_possible_27 : decode cX8_possible 27 = .ok (.if_icmp .ge 52, 3) := by decide +kernel
theorem dX8_possible_30 : decode cX8_possible 30 = .ok (.iconst 0, 1) := by decide +kernel
theorem dX8_possible_31 : decode cX8_possible 31 = .ok (.istore 4, 2) := by decide +kernel
theorem dX8_possible_33 : decode cX8_possible 33 = .ok (.iload 4, 2) := by decide +kernel
theorem dX8_possible_35 : decode cX8_possible 35 = .ok (.bipush 6, 2) := by decide +kernel
theorem dX8_possible_37 : decode cX8_possible 37 = .ok (.if_icmp .ge 36, 3) := by decide +kernel
theorem dX8_possible_40 : decode cX8_possible 40 = .ok (.aload_n 0, 1) := by decide +kernel
theorem dX8_possible_41 : decode cX8_possible 41 = .ok (.getfield 37, 3) := by decide +kernel
theorem dX8_possible_44 : decode cX8_possible 44 = .ok (.iload_n 3, 1) := by decide +kernel
theorem dX8_possible_45 : decode cX8_possible 45 = .ok (.iload 4, 2) := by decide +kernel
theorem dX8_possible_47 : decode cX8_possible 47 = .ok (.invokevirtual 215, 3) := by decide +kernel
theorem dX8_possible_50 : decode cX8_possible 50 = .ok (.ifCond .eq 17, 3) := by decide +kernel
theorem dX8_possible_53 : decode cX8_possible 53 = .ok (.iload_n 2, 1) := by decide +kernel
theorem dX8_possible_54 : decode cX8_possible 54 = .ok (.ifCond .ne 10, 3) := by decide +kernel
theorem dX8_possible_57 : decode cX8_possible 57 = .ok (.iload_n 3, 1) := by decide +kernel
theorem dX8_possible_58 : decode cX8_possible 58 = .ok (.iload 4, 2) := by decide +kernel
theorem dX8_possible_60 : decode cX8_possible 60 = .ok (.invokestatic 216, 3) := by decide +kernel
theorem dX8_possible_63 : decode cX8_possible 63 = .ok (.ireturn, 1) := by decide +kernel
theorem dX8_possible_64 : decode cX8_possible 64 = .ok (.iinc 2 (-1), 3) := by decide +kernel
theorem dX8_possible_67 : decode cX8_possible 67 = .ok (.iinc 4 1, 3) := by decide +kernel
theorem dX8_possible_70 : decode cX8_possible 70 = .ok (.goto (-37), 3) := by decide +kernel
theorem dX8_possible_73 : decode cX8_possible 73 = .ok (.iinc 3 1, 3) := by decide +kernel
theorem dX8_possible_76 : decode cX8_possible 76 = .ok (.goto (-51), 3) := by decide +kernel
theorem dX8_possible_79 : decode cX8_possible 79 = .ok (.bipush (-7), 2) := by decide +kernel
theorem dX8_possible_81 : decode cX8_possible 81 = .ok (.ireturn, 1) := by decide +kernel
theorem dX8_undo_0 : decode cX8_undo 0 = .ok (.aload_n 0, 1) := by decide +kernel
theorem dX8_undo_1 : decode cX8_undo 1 = .ok (.getfield 44, 3) := by decide +kernel
theorem dX8_undo_4 : decode cX8_undo 4 = .ok (.getfield 91, 3) := by decide +kernel
theorem dX8_undo_7 : decode cX8_undo 7 = .ok (.ifCond .ne 6, 3) := by decide +kernel
theorem dX8_undo_10 : decode cX8_undo 10 = .ok (.bipush (-7), 2) := by decide +kernel
theorem dX8_undo_12 : decode cX8_undo 12 = .ok (.ireturn, 1) := by decide +kernel
theorem dX8_undo_13 : decode cX8_undo 13 = .ok (.aload_n 0, 1) := by decide +kernel
theorem dX8_undo_14 : decode cX8_undo 14 = .ok (.getfield 44, 3) := by decide +kernel
theorem dX8_undo_17 : decode cX8_undo 17 = .ok (.dup, 1) := by decide +kernel
theorem dX8_undo_18 : decode cX8_undo 18 = .ok (.getfield 91, 3) := by decide +kernel
theorem dX8_undo_21 : decode cX8_undo 21 = .ok (.iconst 1, 1) := by decide +kernel
theorem dX8_undo_22 : decode cX8_undo 22 = .ok (.isub, 1) := by decide +kernel
theorem dX8_undo_23 : decode cX8_undo 23 = .ok (.putfield 91, 3) := by decide +kernel
theorem dX8_undo_26 : decode cX8_undo 26 = .ok (.aload_n 0, 1) := by decide +kernel
theorem dX8_undo_27 : decode cX8_undo 27 = .ok (.getfield 44, 3) := by decide +kernel
theorem dX8_undo_30 : decode cX8_undo 30 = .ok (.getfield 91, 3) := by decide +kernel
theorem dX8_undo_33 : decode cX8_undo 33 = .ok (.ireturn, 1) := by decide +kernel
theorem dX8_redo_0 : decode cX8_redo 0 = .ok (.aload_n 0, 1) := by decide +kernel
theorem dX8_redo_1 : decode cX8_redo 1 = .ok (.getfield 44, 3) := by decide +kernel
theorem dX8_redo_4 : decode cX8_redo 4 = .ok (.getfield 91, 3) := by decide +kernel
theorem dX8_redo_7 : decode cX8_redo 7 = .ok (.aload_n 0, 1) := by decide +kernel
theorem dX8_redo_8 : decode cX8_redo 8 = .ok (.getfield 44, 3) := by decide +kernel
theorem dX8_redo_11 : decode cX8_redo 11 = .ok (.getfield 219, 3) := by decide +kernel
theorem dX8_redo_14 : decode cX8_redo 14 = .ok (.if_icmp .ne 6, 3) := by decide +kernel
theorem dX8_redo_17 : decode cX8_redo 17 = .ok (.bipush (-7), 2) := by decide +kernel
theorem dX8_redo_19 : decode cX8_redo 19 = .ok (.ireturn, 1) := by decide +kernel
theorem dX8_redo_20 : decode cX8_redo 20 = .ok (.aload_n 0, 1) := by decide +kernel
theorem dX8_redo_21 : decode cX8_redo 21 = .ok (.getfield 44, 3) := by decide +kernel
theorem dX8_redo_24 : decode cX8_redo 24 = .ok (.dup, 1) := by decide +kernel
theorem dX8_redo_25 : decode cX8_redo 25 = .ok (.getfield 91, 3) := by decide +kernel
theorem dX8_redo_28 : decode cX8_redo 28 = .ok (.iconst 1, 1) := by decide +kernel
theorem dX8_redo_29 : decode cX8_redo 29 = .ok (.iadd, 1) := by decide +kernel
theorem dX8_redo_30 : decode cX8_redo 30 = .ok (.putfield 91, 3) := by decide +kernel
theorem dX8_redo_33 : decode cX8_redo 33 = .ok (.aload_n 0, 1) := by decide +kernel
theorem dX8_redo_34 : decode cX8_redo 34 = .ok (.getfield 44, 3) := by decide +kernel
theorem dX8_redo_37 : decode cX8_redo 37 = .ok (.getfield 91, 3) := by decide +kernel
theorem dX8_redo_40 : decode cX8_redo 40 = .ok (.ireturn, 1) := by decide +kernel
theorem dX8_moveAt_0 : decode cX8_moveAt 0 = .ok (.iload_n 1, 1) := by decide +kernel
theorem dX8_moveAt_1 : decode cX8_moveAt 1 = .ok (.ifCond .ge 6, 3) := by decide +kernel
theorem dX8_moveAt_4 : decode cX8_moveAt 4 = .ok (.bipush (-3), 2) := by decide +kernel
theorem dX8_moveAt_6 : decode cX8_moveAt 6 = .ok (.ireturn, 1) := by decide +kernel
theorem dX8_moveAt_7 : decode cX8_moveAt 7 = .ok (.iload_n 1, 1) := by decide +kernel
theorem dX8_moveAt_8 : decode cX8_moveAt 8 = .ok (.aload_n 0, 1) := by decide +kernel
theorem dX8_moveAt_9 : decode cX8_moveAt 9 = .ok (.getfield 44, 3) := by decide +kernel
theorem dX8_moveAt_12 : decode cX8_moveAt 12 = .ok (.getfield 91, 3) := by decide +kernel
theorem dX8_moveAt_15 : decode cX8_moveAt 15 = .ok (.if_icmp .ge 15, 3) := by decide +kernel
theorem dX8_moveAt_18 : decode cX8_moveAt 18 = .ok (.aload_n 0, 1) := by decide +kernel
theorem dX8_moveAt_19 : decode cX8_moveAt 19 = .ok (.getfield 44, 3) := by decide +kernel
theorem dX8_moveAt_22 : decode cX8_moveAt 22 = .ok (.getfield 222, 3) := by decide +kernel
theorem dX8_moveAt_25 : decode cX8_moveAt 25 = .ok (.iload_n 1, 1) := by decide +kernel
theorem dX8_moveAt_26 : decode cX8_moveAt 26 = .ok (.iaload, 1) := by decide +kernel
theorem dX8_moveAt_27 : decode cX8_moveAt 27 = .ok (.goto 5, 3) := by decide +kernel
theorem dX8_moveAt_30 : decode cX8_moveAt 30 = .ok (.bipush (-7), 2) := by decide +kernel
theorem dX8_moveAt_32 : decode cX8_moveAt 32 = .ok (.ireturn, 1) := by decide +kernel
theorem dX8_effort_0 : decode cX8_effort 0 = .ok (.aload_n 0, 1) := by decide +kernel
theorem dX8_effort_1 : decode cX8_effort 1 = .ok (.getfield 44, 3) := by decide +kernel
theorem dX8_effort_4 : decode cX8_effort 4 = .ok (.getfield 225, 3) := by decide +kernel
theorem dX8_effort_7 : decode cX8_effort 7 = .ok (.aload_n 0, 1) := by decide +kernel
theorem dX8_effort_8 : decode cX8_effort 8 = .ok (.getfield 44, 3) := by decide +kernel
theorem dX8_effort_11 : decode cX8_effort 11 = .ok (.getfield 91, 3) := by decide +kernel
theorem dX8_effort_14 : decode cX8_effort 14 = .ok (.iaload, 1) := by decide +kernel
theorem dX8_effort_15 : decode cX8_effort 15 = .ok (.ireturn, 1) := by decide +kernel
theorem dX8_save_0 : decode cX8_save 0 = .ok (.iload_n 1, 1) := by decide +kernel
theorem dX8_save_1 : decode cX8_save 1 = .ok (.invokestatic 228, 3) := by decide +kernel
theorem dX8_save_4 : decode cX8_save 4 = .ok (.ifCond .ne 6, 3) := by decide +kernel
theorem dX8_save_7 : decode cX8_save 7 = .ok (.bipush (-3), 2) := by decide +kernel
theorem dX8_save_9 : decode cX8_save 9 = .ok (.ireturn, 1) := by decide +kernel
theorem dX8_save_10 : decode cX8_save 10 = .ok (.aload_n 0, 1) := by decide +kernel
theorem dX8_save_11 : decode cX8_save 11 = .ok (.iload_n 1, 1) := by decide +kernel
theorem dX8_save_12 : decode cX8_save 12 = .ok (.invokevirtual 231, 3) := by decide +kernel
theorem dX8_save_15 : decode cX8_save 15 = .ok (.istore_n 2, 1) := by decide +kernel
theorem dX8_save_16 : decode cX8_save 16 = .ok (.aload_n 0, 1) := by decide +kernel
theorem dX8_save_17 : decode cX8_save 17 = .ok (.getfield 55, 3) := by decide +kernel
theorem dX8_save_20 : decode cX8_save 20 = .ok (.iload_n 1, 1) := by decide +kernel
theorem dX8_save_21 : decode cX8_save 21 = .ok (.aload_n 0, 1) := by decide +kernel
theorem dX8_save_22 : decode cX8_save 22 = .ok (.getfield 44, 3) := by decide +kernel
theorem dX8_save_25 : decode cX8_save 25 = .ok (.invokevirtual 132, 3) := by decide +kernel
theorem dX8_save_28 : decode cX8_save 28 = .ok (.lastore, 1) := by decide +kernel
theorem dX8_save_29 : decode cX8_save 29 = .ok (.aload_n 0, 1) := by decide +kernel
theorem dX8_save_30 : decode cX8_save 30 = .ok (.dup, 1) := by decide +kernel
theorem dX8_save_31 : decode cX8_save 31 = .ok (.getfield 59, 3) := by decide +kernel
theorem dX8_save_34 : decode cX8_save 34 = .ok (.iconst 1, 1) := by decide +kernel
theorem dX8_save_35 : decode cX8_save 35 = .ok (.iload_n 1, 1) := by decide +kernel
theorem dX8_save_36 : decode cX8_save 36 = .ok (.ishl, 1) := by decide +kernel
theorem dX8_save_37 : decode cX8_save 37 = .ok (.ior, 1) := by decide +kernel
theorem dX8_save_38 : decode cX8_save 38 = .ok (.putfield 59, 3) := by decide +kernel
theorem dX8_save_41 : decode cX8_save 41 = .ok (.iload_n 2, 1) := by decide +kernel
theorem dX8_save_42 : decode cX8_save 42 = .ok (.ifCond .eq 7, 3) := by decide +kernel
theorem dX8_save_45 : decode cX8_save 45 = .ok (.iconst 1, 1) := by decide +kernel
theorem dX8_save_46 : decode cX8_save 46 = .ok (.goto 4, 3) := by decide +kernel
theorem dX8_save_49 : decode cX8_save 49 = .ok (.iconst 0, 1) := by decide +kernel
theorem dX8_save_50 : decode cX8_save 50 = .ok (.ireturn, 1) := by decide +kernel
theorem dX8_restore_0 : decode cX8_restore 0 = .ok (.iload_n 1, 1) := by decide +kernel
theorem dX8_restore_1 : decode cX8_restore 1 = .ok (.invokestatic 228, 3) := by decide +kernel
theorem dX8_restore_4 : decode cX8_restore 4 = .ok (.ifCond .ne 6, 3) := by decide +kernel
theorem dX8_restore_7 : decode cX8_restore 7 = .ok (.bipush (-3), 2) := by decide +kernel
theorem dX8_restore_9 : decode cX8_restore 9 = .ok (.ireturn, 1) := by decide +kernel
theorem dX8_restore_10 : decode cX8_restore 10 = .ok (.aload_n 0, 1) := by decide +kernel
theorem dX8_restore_11 : decode cX8_restore 11 = .ok (.iload_n 1, 1) := by decide +kernel
theorem dX8_restore_12 : decode cX8_restore 12 = .ok (.invokevirtual 231, 3) := by decide +kernel
theorem dX8_restore_15 : decode cX8_restore 15 = .ok (.ifCond .eq 6, 3) := by decide +kernel
theorem dX8_restore_18 : decode cX8_restore 18 = .ok (.bipush (-7), 2) := by decide +kernel
theorem dX8_restore_20 : decode cX8_restore 20 = .ok (.ireturn, 1) := by decide +kernel
theorem dX8_restore_21 : decode cX8_restore 21 = .ok (.aload_n 0, 1) := by decide +kernel
theorem dX8_restore_22 : decode cX8_restore 22 = .ok (.getfield 44, 3) := by decide +kernel
theorem dX8_restore_25 : decode cX8_restore 25 = .ok (.invokevirtual 132, 3) := by decide +kernel
theorem dX8_restore_28 : decode cX8_restore 28 = .ok (.lstore_n 2, 1) := by decide +kernel
theorem dX8_restore_29 : decode cX8_restore 29 = .ok (.aload_n 0, 1) := by decide +kernel
theorem dX8_restore_30 : decode cX8_restore 30 = .ok (.getfield 44, 3) := by decide +kernel
theorem dX8_restore_33 : decode cX8_restore 33 = .ok (.aload_n 0, 1) := by decide +kernel
theorem dX8_restore_34 : decode cX8_restore 34 = .ok (.getfield 55, 3) := by decide +kernel
theorem dX8_restore_37 : decode cX8_restore 37 = .ok (.iload_n 1, 1) := by decide +kernel
theorem dX8_restore_38 : decode cX8_restore 38 = .ok (.laload, 1) := by decide +kernel
theorem dX8_restore_39 : decode cX8_restore 39 = .ok (.invokevirtual 78, 3) := by decide +kernel
theorem dX8_restore_42 : decode cX8_restore 42 = .ok (.iconst 0, 1) := by decide +kernel
theorem dX8_restore_43 : decode cX8_restore 43 = .ok (.istore 4, 2) := by decide +kernel
theorem dX8_restore_45 : decode cX8_restore 45 = .ok (.iconst 0, 1) := by decide +kernel
theorem dX8_restore_46 : decode cX8_restore 46 = .ok (.istore 5, 2) := by decide +kernel
theorem dX8_restore_48 : decode cX8_restore 48 = .ok (.iload 5, 2) := by decide +kernel
theorem dX8_restore_50 : decode cX8_restore 50 = .ok (.iconst 5, 1) := by decide +kernel
theorem dX8_restore_51 : decode cX8_restore 51 = .ok (.if_icmp .ge 32, 3) := by decide +kernel
theorem dX8_restore_54 : decode cX8_restore 54 = .ok (.lload_n 2, 1) := by decide +kernel
theorem dX8_restore_55 : decode cX8_restore 55 = .ok (.iload 5, 2) := by decide +kernel
theorem dX8_restore_57 : decode cX8_restore 57 = .ok (.invokestatic 160, 3) := by decide +kernel
theorem dX8_restore_60 : decode cX8_restore 60 = .ok (.aload_n 0, 1) := by decide +kernel
theorem dX8_restore_61 : decode cX8_restore 61 = .ok (.getfield 55, 3) := by decide +kernel
theorem dX8_restore_64 : decode cX8_restore 64 = .ok (.iload_n 1, 1) := by decide +kernel
theorem dX8_restore_65 : decode cX8_restore 65 = .ok (.laload, 1) := by decide +kernel
theorem dX8_restore_66 : decode cX8_restore 66 = .ok (.iload 5, 2) := by decide +kernel
theorem dX8_restore_68 : decode cX8_restore 68 = .ok (.invokestatic 160, 3) := by decide +kernel
theorem dX8_restore_71 : decode cX8_restore 71 = .ok (.if_icmp .eq 6, 3) := by decide +kernel
theorem dX8_restore_74 : decode cX8_restore 74 = .ok (.iinc 4 1, 3) := by decide +kernel
theorem dX8_restore_77 : decode cX8_restore 77 = .ok (.iinc 5 1, 3) := by decide +kernel
theorem dX8_restore_80 : decode cX8_restore 80 = .ok (.goto (-32), 3) := by decide +kernel
theorem dX8_restore_83 : decode cX8_restore 83 = .ok (.iload 4, 2) := by decide +kernel
theorem dX8_restore_85 : decode cX8_restore 85 = .ok (.ireturn, 1) := by decide +kernel
theorem dX8_isSolved_0 : decode cX8_isSolved 0 = .ok (.aload_n 0, 1) := by decide +kernel
theorem dX8_isSolved_1 : decode cX8_isSolved 1 = .ok (.getfield 19, 3) := by decide +kernel
theorem dX8_isSolved_4 : decode cX8_isSolved 4 = .ok (.aload_n 0, 1) := by decide +kernel
theorem dX8_isSolved_5 : decode cX8_isSolved 5 = .ok (.getfield 44, 3) := by decide +kernel
theorem dX8_isSolved_8 : decode cX8_isSolved 8 = .ok (.invokevirtual 132, 3) := by decide +kernel
theorem dX8_isSolved_11 : decode cX8_isSolved 11 = .ok (.invokevirtual 234, 3) := by decide +kernel
theorem dX8_isSolved_14 : decode cX8_isSolved 14 = .ok (.ifCond .ne 7, 3) := by decide +kernel
theorem dX8_isSolved_17 : decode cX8_isSolved 17 = .ok (.iconst 1, 1) := by decide +kernel
theorem dX8_isSolved_18 : decode cX8_isSolved 18 = .ok (.goto 4, 3) := by decide +kernel
theorem dX8_isSolved_21 : decode cX8_isSolved 21 = .ok (.iconst 0, 1) := by decide +kernel
theorem dX8_isSolved_22 : decode cX8_isSolved 22 = .ok (.ireturn, 1) := by decide +kernel
theorem dX8_isDead_0 : decode cX8_isDead 0 = .ok (.aload_n 0, 1) := by decide +kernel
theorem dX8_isDead_1 : decode cX8_isDead 1 = .ok (.getfield 19, 3) := by decide +kernel
theorem dX8_isDead_4 : decode cX8_isDead 4 = .ok (.iload_n 1, 1) := by decide +kernel
theorem dX8_isDead_5 : decode cX8_isDead 5 = .ok (.invokevirtual 146, 3) := by decide +kernel
theorem dX8_isDead_8 : decode cX8_isDead 8 = .ok (.ifCond .ne 5, 3) := by decide +kernel
theorem dX8_isDead_11 : decode cX8_isDead 11 = .ok (.iconst (-1), 1) := by decide +kernel
theorem dX8_isDead_12 : decode cX8_isDead 12 = .ok (.ireturn, 1) := by decide +kernel
theorem dX8_isDead_13 : decode cX8_isDead 13 = .ok (.aload_n 0, 1) := by decide +kernel
theorem dX8_isDead_14 : decode cX8_isDead 14 = .ok (.getfield 19, 3) := by decide +kernel
theorem dX8_isDead_17 : decode cX8_isDead 17 = .ok (.getfield 110, 3) := by decide +kernel
theorem dX8_isDead_20 : decode cX8_isDead 20 = .ok (.iload_n 2, 1) := by decide +kernel
theorem dX8_isDead_21 : decode cX8_isDead 21 = .ok (.iload_n 3, 1) := by decide +kernel
theorem dX8_isDead_22 : decode cX8_isDead 22 = .ok (.invokevirtual 125, 3) := by decide +kernel
theorem dX8_isDead_25 : decode cX8_isDead 25 = .ok (.istore 5, 2) := by decide +kernel
theorem dX8_isDead_27 : decode cX8_isDead 27 = .ok (.iload 5, 2) := by decide +kernel
theorem dX8_isDead_29 : decode cX8_isDead 29 = .ok (.ifCond .ge 6, 3) := by decide +kernel
theorem dX8_isDead_32 : decode cX8_isDead 32 = .ok (.bipush (-2), 2) := by decide +kernel
theorem dX8_isDead_34 : decode cX8_isDead 34 = .ok (.ireturn, 1) := by decide +kernel
theorem dX8_isDead_35 : decode cX8_isDead 35 = .ok (.iload 4, 2) := by decide +kernel
theorem dX8_isDead_37 : decode cX8_isDead 37 = .ok (.ifCond .lt 9, 3) := by decide +kernel
theorem dX8_isDead_40 : decode cX8_isDead 40 = .ok (.iload 4, 2) := by decide +kernel
theorem dX8_isDead_42 : decode cX8_isDead 42 = .ok (.iconst 4, 1) := by decide +kernel
theorem dX8_isDead_43 : decode cX8_isDead 43 = .ok (.if_icmp .lt 6, 3) := by decide +kernel
theorem dX8_isDead_46 : decode cX8_isDead 46 = .ok (.bipush (-3), 2) := by decide +kernel
theorem dX8_isDead_48 : decode cX8_isDead 48 = .ok (.ireturn, 1) := by decide +kernel
theorem dX8_isDead_49 : decode cX8_isDead 49 = .ok (.aload_n 0, 1) := by decide +kernel
theorem dX8_isDead_50 : decode cX8_isDead 50 = .ok (.getfield 19, 3) := by decide +kernel
theorem dX8_isDead_53 : decode cX8_isDead 53 = .ok (.getfield 150, 3) := by decide +kernel
theorem dX8_isDead_56 : decode cX8_isDead 56 = .ok (.iload_n 1, 1) := by decide +kernel
theorem dX8_isDead_57 : decode cX8_isDead 57 = .ok (.aaload, 1) := by decide +kernel
theorem dX8_isDead_58 : decode cX8_isDead 58 = .ok (.astore 6, 2) := by decide +kernel
theorem dX8_isDead_60 : decode cX8_isDead 60 = .ok (.bipush 64, 2) := by decide +kernel
theorem dX8_isDead_62 : decode cX8_isDead 62 = .ok (.iload 4, 2) := by decide +kernel
theorem dX8_isDead_64 : decode cX8_isDead 64 = .ok (.imul, 1) := by decide +kernel
theorem dX8_isDead_65 : decode cX8_isDead 65 = .ok (.iload 5, 2) := by decide +kernel
theorem dX8_isDead_67 : decode cX8_isDead 67 = .ok (.iadd, 1) := by decide +kernel
theorem dX8_isDead_68 : decode cX8_isDead 68 = .ok (.istore 7, 2) := by decide +kernel
theorem dX8_isDead_70 : decode cX8_isDead 70 = .ok (.aload 6, 2) := by decide +kernel
theorem dX8_isDead_72 : decode cX8_isDead 72 = .ok (.iload 7, 2) := by decide +kernel
theorem dX8_isDead_74 : decode cX8_isDead 74 = .ok (.invokevirtual 238, 3) := by decide +kernel
theorem dX8_isDead_77 : decode cX8_isDead 77 = .ok (.ifCond .ne 6, 3) := by decide +kernel
theorem dX8_isDead_80 : decode cX8_isDead 80 = .ok (.bipush (-7), 2) := by decide +kernel
theorem dX8_isDead_82 : decode cX8_isDead 82 = .ok (.ireturn, 1) := by decide +kernel
theorem dX8_isDead_83 : decode cX8_isDead 83 = .ok (.aload 6, 2) := by decide +kernel
theorem dX8_isDead_85 : decode cX8_isDead 85 = .ok (.getfield 241, 3) := by decide +kernel
theorem dX8_isDead_88 : decode cX8_isDead 88 = .ok (.iload 7, 2) := by decide +kernel
theorem dX8_isDead_90 : decode cX8_isDead 90 = .ok (.iaload, 1) := by decide +kernel
theorem dX8_isDead_91 : decode cX8_isDead 91 = .ok (.ifCond .ge 7, 3) := by decide +kernel
theorem dX8_isDead_94 : decode cX8_isDead 94 = .ok (.iconst 1, 1) := by decide +kernel
theorem dX8_isDead_95 : decode cX8_isDead 95 = .ok (.goto 4, 3) := by decide +kernel
theorem dX8_isDead_98 : decode cX8_isDead 98 = .ok (.iconst 0, 1) := by decide +kernel
theorem dX8_isDead_99 : decode cX8_isDead 99 = .ok (.ireturn, 1) := by decide +kernel
theorem dX8_deadCount_0 : decode cX8_deadCount 0 = .ok (.aload_n 0, 1) := by decide +kernel
theorem dX8_deadCount_1 : decode cX8_deadCount 1 = .ok (.getfield 19, 3) := by decide +kernel
theorem dX8_deadCount_4 : decode cX8_deadCount 4 = .ok (.iload_n 1, 1) := by decide +kernel
theorem dX8_deadCount_5 : decode cX8_deadCount 5 = .ok (.invokevirtual 146, 3) := by decide +kernel
theorem dX8_deadCount_8 : decode cX8_deadCount 8 = .ok (.ifCond .ne 5, 3) := by decide +kernel
theorem dX8_deadCount_11 : decode cX8_deadCount 11 = .ok (.iconst (-1), 1) := by decide +kernel
theorem dX8_deadCount_12 : decode cX8_deadCount 12 = .ok (.ireturn, 1) := by decide +kernel
theorem dX8_deadCount_13 : decode cX8_deadCount 13 = .ok (.aload_n 0, 1) := by decide +kernel
theorem dX8_deadCount_14 : decode cX8_deadCount 14 = .ok (.getfield 19, 3) := by decide +kernel
theorem dX8_deadCount_17 : decode cX8_deadCount 17 = .ok (.getfield 150, 3) := by decide +kernel
theorem dX8_deadCount_20 : decode cX8_deadCount 20 = .ok (.iload_n 1, 1) := by decide +kernel
theorem dX8_deadCount_21 : decode cX8_deadCount 21 = .ok (.aaload, 1) := by decide +kernel
theorem dX8_deadCount_22 : decode cX8_deadCount 22 = .ok (.astore_n 2, 1) := by decide +kernel
theorem dX8_deadCount_23 : decode cX8_deadCount 23 = .ok (.iconst 0, 1) := by decide +kernel
theorem dX8_deadCount_24 : decode cX8_deadCount 24 = .ok (.istore_n 3, 1) := by decide +kernel
theorem dX8_deadCount_25 : decode cX8_deadCount 25 = .ok (.iconst 0, 1) := by decide +kernel
theorem dX8_deadCount_26 : decode cX8_deadCount 26 = .ok (.istore 4, 2) := by decide +kernel
theorem dX8_deadCount_28 : decode cX8_deadCount 28 = .ok (.iload 4, 2) := by decide +kernel
theorem dX8_deadCount_30 : decode cX8_deadCount 30 = .ok (.sipush 256, 3) := by decide +kernel
theorem dX8_deadCount_33 : decode cX8_deadCount 33 = .ok (.if_icmp .ge 31, 3) := by decide +kernel
theorem dX8_deadCount_36 : decode cX8_deadCount 36 = .ok (.aload_n 2, 1) := by decide +kernel
theorem dX8_deadCount_37 : decode cX8_deadCount 37 = .ok (.iload 4, 2) := by decide +kernel
theorem dX8_deadCount_39 : decode cX8_deadCount 39 = .ok (.invokevirtual 238, 3) := by decide +kernel
theorem dX8_deadCount_42 : decode cX8_deadCount 42 = .ok (.ifCond .eq 16, 3) := by decide +kernel
theorem dX8_deadCount_45 : decode cX8_deadCount 45 = .ok (.aload_n 2, 1) := by decide +kernel
theorem dX8_deadCount_46 : decode cX8_deadCount 46 = .ok (.getfield 241, 3) := by decide +kernel
theorem dX8_deadCount_49 : decode cX8_deadCount 49 = .ok (.iload 4, 2) := by decide +kernel
theorem dX8_deadCount_51 : decode cX8_deadCount 51 = .ok (.iaload, 1) := by decide +kernel
theorem dX8_deadCount_52 : decode cX8_deadCount 52 = .ok (.ifCond .ge 6, 3) := by decide +kernel
theorem dX8_deadCount_55 : decode cX8_deadCount 55 = .ok (.iinc 3 1, 3) := by decide +kernel
theorem dX8_deadCount_58 : decode cX8_deadCount 58 = .ok (.iinc 4 1, 3) := by decide +kernel
theorem dX8_deadCount_61 : decode cX8_deadCount 61 = .ok (.goto (-33), 3) := by decide +kernel
theorem dX8_deadCount_64 : decode cX8_deadCount 64 = .ok (.iload_n 3, 1) := by decide +kernel
theorem dX8_deadCount_65 : decode cX8_deadCount 65 = .ok (.ireturn, 1) := by decide +kernel
theorem dX8_distance_0 : decode cX8_distance 0 = .ok (.aload_n 0, 1) := by decide +kernel
theorem dX8_distance_1 : decode cX8_distance 1 = .ok (.getfield 19, 3) := by decide +kernel
theorem dX8_distance_4 : decode cX8_distance 4 = .ok (.iload_n 1, 1) := by decide +kernel
theorem dX8_distance_5 : decode cX8_distance 5 = .ok (.invokevirtual 146, 3) := by decide +kernel
theorem dX8_distance_8 : decode cX8_distance 8 = .ok (.ifCond .ne 5, 3) := by decide +kernel
theorem dX8_distance_11 : decode cX8_distance 11 = .ok (.iconst (-1), 1) := by decide +kernel
theorem dX8_distance_12 : decode cX8_distance 12 = .ok (.ireturn, 1) := by decide +kernel
theorem dX8_distance_13 : decode cX8_distance 13 = .ok (.aload_n 0, 1) := by decide +kernel
theorem dX8_distance_14 : decode cX8_distance 14 = .ok (.getfield 19, 3) := by decide +kernel
theorem dX8_distance_17 : decode cX8_distance 17 = .ok (.getfield 150, 3) := by decide +kernel
theorem dX8_distance_20 : decode cX8_distance 20 = .ok (.iload_n 1, 1) := by decide +kernel
theorem dX8_distance_21 : decode cX8_distance 21 = .ok (.aaload, 1) := by decide +kernel
theorem dX8_distance_22 : decode cX8_distance 22 = .ok (.getfield 241, 3) := by decide +kernel
theorem dX8_distance_25 : decode cX8_distance 25 = .ok (.aload_n 0, 1) := by decide +kernel
theorem dX8_distance_26 : decode cX8_distance 26 = .ok (.getfield 44, 3) := by decide +kernel
theorem dX8_distance_29 : decode cX8_distance 29 = .ok (.invokevirtual 132, 3) := by decide +kernel
theorem dX8_distance_32 : decode cX8_distance 32 = .ok (.iload_n 1, 1) := by decide +kernel
theorem dX8_distance_33 : decode cX8_distance 33 = .ok (.invokestatic 160, 3) := by decide +kernel
theorem dX8_distance_36 : decode cX8_distance 36 = .ok (.iaload, 1) := by decide +kernel
theorem dX8_distance_37 : decode cX8_distance 37 = .ok (.istore_n 2, 1) := by decide +kernel
theorem dX8_distance_38 : decode cX8_distance 38 = .ok (.iload_n 2, 1) := by decide +kernel
theorem dX8_distance_39 : decode cX8_distance 39 = .ok (.ifCond .ge 8, 3) := by decide +kernel
theorem dX8_distance_42 : decode cX8_distance 42 = .ok (.bipush (-7), 2) := by decide +kernel
theorem dX8_distance_44 : decode cX8_distance 44 = .ok (.goto 4, 3) := by decide +kernel
theorem dX8_distance_47 : decode cX8_distance 47 = .ok (.iload_n 2, 1) := by decide +kernel
theorem dX8_distance_48 : decode cX8_distance 48 = .ok (.ireturn, 1) := by decide +kernel
theorem dX8_lowerBound_0 : decode cX8_lowerBound 0 = .ok (.aload_n 0, 1) := by decide +kernel
theorem dX8_lowerBound_1 : decode cX8_lowerBound 1 = .ok (.getfield 19, 3) := by decide +kernel
theorem dX8_lowerBound_4 : decode cX8_lowerBound 4 = .ok (.aload_n 0, 1) := by decide +kernel
theorem dX8_lowerBound_5 : decode cX8_lowerBound 5 = .ok (.getfield 44, 3) := by decide +kernel
theorem dX8_lowerBound_8 : decode cX8_lowerBound 8 = .ok (.invokevirtual 132, 3) := by decide +kernel
theorem dX8_lowerBound_11 : decode cX8_lowerBound 11 = .ok (.invokevirtual 234, 3) := by decide +kernel
theorem dX8_lowerBound_14 : decode cX8_lowerBound 14 = .ok (.istore_n 1, 1) := by decide +kernel
theorem dX8_lowerBound_15 : decode cX8_lowerBound 15 = .ok (.iload_n 1, 1) := by decide +kernel
theorem dX8_lowerBound_16 : decode cX8_lowerBound 16 = .ok (.ifCond .ge 8, 3) := by decide +kernel
theorem dX8_lowerBound_19 : decode cX8_lowerBound 19 = .ok (.bipush (-7), 2) := by decide +kernel
theorem dX8_lowerBound_21 : decode cX8_lowerBound 21 = .ok (.goto 4, 3) := by decide +kernel
theorem dX8_lowerBound_24 : decode cX8_lowerBound 24 = .ok (.iload_n 1, 1) := by decide +kernel
theorem dX8_lowerBound_25 : decode cX8_lowerBound 25 = .ok (.ireturn, 1) := by decide +kernel
theorem dX8_solve_0 : decode cX8_solve 0 = .ok (.aload_n 0, 1) := by decide +kernel
theorem dX8_solve_1 : decode cX8_solve 1 = .ok (.getfield 51, 3) := by decide +kernel
theorem dX8_solve_4 : decode cX8_solve 4 = .ok (.aload_n 0, 1) := by decide +kernel
theorem dX8_solve_5 : decode cX8_solve 5 = .ok (.getfield 44, 3) := by decide +kernel
theorem dX8_solve_8 : decode cX8_solve 8 = .ok (.invokevirtual 132, 3) := by decide +kernel
theorem dX8_solve_11 : decode cX8_solve 11 = .ok (.invokevirtual 244, 3) := by decide +kernel
theorem dX8_solve_14 : decode cX8_solve 14 = .ok (.ireturn, 1) := by decide +kernel
theorem dX8_solution_0 : decode cX8_solution 0 = .ok (.iload_n 1, 1) := by decide +kernel
theorem dX8_solution_1 : decode cX8_solution 1 = .ok (.ifCond .ge 6, 3) := by decide +kernel
theorem dX8_solution_4 : decode cX8_solution 4 = .ok (.bipush (-3), 2) := by decide +kernel
theorem dX8_solution_6 : decode cX8_solution 6 = .ok (.ireturn, 1) := by decide +kernel
theorem dX8_solution_7 : decode cX8_solution 7 = .ok (.aload_n 0, 1) := by decide +kernel
theorem dX8_solution_8 : decode cX8_solution 8 = .ok (.getfield 51, 3) := by decide +kernel
theorem dX8_solution_11 : decode cX8_solution 11 = .ok (.aload_n 0, 1) := by decide +kernel
theorem dX8_solution_12 : decode cX8_solution 12 = .ok (.getfield 44, 3) := by decide +kernel
theorem dX8_solution_15 : decode cX8_solution 15 = .ok (.invokevirtual 132, 3) := by decide +kernel
theorem dX8_solution_18 : decode cX8_solution 18 = .ok (.invokevirtual 244, 3) := by decide +kernel
theorem dX8_solution_21 : decode cX8_solution 21 = .ok (.istore_n 2, 1) := by decide +kernel
theorem dX8_solution_22 : decode cX8_solution 22 = .ok (.iload_n 2, 1) := by decide +kernel
theorem dX8_solution_23 : decode cX8_solution 23 = .ok (.bipush (-6), 2) := by decide +kernel
theorem dX8_solution_25 : decode cX8_solution 25 = .ok (.if_icmp .ne 6, 3) := by decide +kernel
theorem dX8_solution_28 : decode cX8_solution 28 = .ok (.bipush (-6), 2) := by decide +kernel
theorem dX8_solution_30 : decode cX8_solution 30 = .ok (.ireturn, 1) := by decide +kernel
theorem dX8_solution_31 : decode cX8_solution 31 = .ok (.iload_n 1, 1) := by decide +kernel
theorem dX8_solution_32 : decode cX8_solution 32 = .ok (.iload_n 2, 1) := by decide +kernel
theorem dX8_solution_33 : decode cX8_solution 33 = .ok (.if_icmp .ge 15, 3) := by decide +kernel
theorem dX8_solution_36 : decode cX8_solution 36 = .ok (.aload_n 0, 1) := by decide +kernel
theorem dX8_solution_37 : decode cX8_solution 37 = .ok (.getfield 51, 3) := by decide +kernel
theorem dX8_solution_40 : decode cX8_solution 40 = .ok (.getfield 247, 3) := by decide +kernel
theorem dX8_solution_43 : decode cX8_solution 43 = .ok (.iload_n 1, 1) := by decide +kernel
theorem dX8_solution_44 : decode cX8_solution 44 = .ok (.iaload, 1) := by decide +kernel
theorem dX8_solution_45 : decode cX8_solution 45 = .ok (.goto 5, 3) := by decide +kernel
theorem dX8_solution_48 : decode cX8_solution 48 = .ok (.bipush (-7), 2) := by decide +kernel
theorem dX8_solution_50 : decode cX8_solution 50 = .ok (.ireturn, 1) := by decide +kernel
theorem dX8_reachable_0 : decode cX8_reachable 0 = .ok (.iload_n 1, 1) := by decide +kernel
theorem dX8_reachable_1 : decode cX8_reachable 1 = .ok (.ifCond .lt 8, 3) := by decide +kernel
theorem dX8_reachable_4 : decode cX8_reachable 4 = .ok (.iload_n 1, 1) := by decide +kernel
theorem dX8_reachable_5 : decode cX8_reachable 5 = .ok (.iconst 4, 1) := by decide +kernel
theorem dX8_reachable_6 : decode cX8_reachable 6 = .ok (.if_icmp .le 6, 3) := by decide +kernel
theorem dX8_reachable_9 : decode cX8_reachable 9 = .ok (.bipush (-3), 2) := by decide +kernel
theorem dX8_reachable_11 : decode cX8_reachable 11 = .ok (.ireturn, 1) := by decide +kernel
theorem dX8_reachable_12 : decode cX8_reachable 12 = .ok (.aload_n 0, 1) := by decide +kernel
theorem dX8_reachable_13 : decode cX8_reachable 13 = .ok (.getfield 51, 3) := by decide +kernel
theorem dX8_reachable_16 : decode cX8_reachable 16 = .ok (.aload_n 0, 1) := by decide +kernel
theorem dX8_reachable_17 : decode cX8_reachable 17 = .ok (.getfield 44, 3) := by decide +kernel
theorem dX8_reachable_20 : decode cX8_reachable 20 = .ok (.invokevirtual 132, 3) := by decide +kernel
theorem dX8_reachable_23 : decode cX8_reachable 23 = .ok (.iload_n 1, 1) := by decide +kernel
theorem dX8_reachable_24 : decode cX8_reachable 24 = .ok (.invokevirtual 250, 3) := by decide +kernel
theorem dX8_reachable_27 : decode cX8_reachable 27 = .ok (.ireturn, 1) := by decide +kernel
theorem dX8_attempt_0 : decode cX8_attempt 0 = .ok (.aload_n 0, 1) := by decide +kernel
theorem dX8_attempt_1 : decode cX8_attempt 1 = .ok (.getfield 37, 3) := by decide +kernel
theorem dX8_attempt_4 : decode cX8_attempt 4 = .ok (.aload_n 0, 1) := by decide +kernel
theorem dX8_attempt_5 : decode cX8_attempt 5 = .ok (.getfield 44, 3) := by decide +kernel
theorem dX8_attempt_8 : decode cX8_attempt 8 = .ok (.invokevirtual 132, 3) := by decide +kernel
theorem dX8_attempt_11 : decode cX8_attempt 11 = .ok (.invokevirtual 136, 3) := by decide +kernel
theorem dX8_attempt_14 : decode cX8_attempt 14 = .ok (.aload_n 0, 1) := by decide +kernel
theorem dX8_attempt_15 : decode cX8_attempt 15 = .ok (.getfield 37, 3) := by decide +kernel
theorem dX8_attempt_18 : decode cX8_attempt 18 = .ok (.iload_n 1, 1) := by decide +kernel
theorem dX8_attempt_19 : decode cX8_attempt 19 = .ok (.iload_n 2, 1) := by decide +kernel
theorem dX8_attempt_20 : decode cX8_attempt 20 = .ok (.invokevirtual 215, 3) := by decide +kernel
theorem dX8_attempt_23 : decode cX8_attempt 23 = .ok (.ireturn, 1) := by decide +kernel
theorem dX8_makeMove_0 : decode cX8_makeMove 0 = .ok (.aload_n 0, 1) := by decide +kernel
theorem dX8_makeMove_1 : decode cX8_makeMove 1 = .ok (.getfield 44, 3) := by decide +kernel
theorem dX8_makeMove_4 : decode cX8_makeMove 4 = .ok (.iload_n 1, 1) := by decide +kernel
theorem dX8_makeMove_5 : decode cX8_makeMove 5 = .ok (.iload_n 2, 1) := by decide +kernel
theorem dX8_makeMove_6 : decode cX8_makeMove 6 = .ok (.invokestatic 216, 3) := by decide +kernel
theorem dX8_makeMove_9 : decode cX8_makeMove 9 = .ok (.aload_n 0, 1) := by decide +kernel
theorem dX8_makeMove_10 : decode cX8_makeMove 10 = .ok (.getfield 19, 3) := by decide +kernel
theorem dX8_makeMove_13 : decode cX8_makeMove 13 = .ok (.iload_n 3, 1) := by decide +kernel
theorem dX8_makeMove_14 : decode cX8_makeMove 14 = .ok (.invokevirtual 253, 3) := by decide +kernel
theorem dX8_makeMove_17 : decode cX8_makeMove 17 = .ok (.aload_n 0, 1) := by decide +kernel
theorem dX8_makeMove_18 : decode cX8_makeMove 18 = .ok (.getfield 37, 3) := by decide +kernel
theorem dX8_makeMove_21 : decode cX8_makeMove 21 = .ok (.getfield 256, 3) := by decide +kernel
theorem dX8_makeMove_24 : decode cX8_makeMove 24 = .ok (.invokevirtual 260, 3) := by decide +kernel
theorem dX8_makeMove_27 : decode cX8_makeMove 27 = .ok (.return_, 1) := by decide +kernel
theorem dX8_faultOfMoves_0 : decode cX8_faultOfMoves 0 = .ok (.aload_n 0, 1) := by decide +kernel
theorem dX8_faultOfMoves_1 : decode cX8_faultOfMoves 1 = .ok (.getfield 37, 3) := by decide +kernel
theorem dX8_faultOfMoves_4 : decode cX8_faultOfMoves 4 = .ok (.aload_n 0, 1) := by decide +kernel
theorem dX8_faultOfMoves_5 : decode cX8_faultOfMoves 5 = .ok (.getfield 44, 3) := by decide +kernel
theorem dX8_faultOfMoves_8 : decode cX8_faultOfMoves 8 = .ok (.invokevirtual 132, 3) := by decide +kernel
theorem dX8_faultOfMoves_11 : decode cX8_faultOfMoves 11 = .ok (.invokevirtual 136, 3) := by decide +kernel
theorem dX8_faultOfMoves_14 : decode cX8_faultOfMoves 14 = .ok (.iconst 0, 1) := by decide +kernel
theorem dX8_faultOfMoves_15 : decode cX8_faultOfMoves 15 = .ok (.istore_n 1, 1) := by decide +kernel
theorem dX8_faultOfMoves_16 : decode cX8_faultOfMoves 16 = .ok (.iload_n 1, 1) := by decide +kernel
theorem dX8_faultOfMoves_17 : decode cX8_faultOfMoves 17 = .ok (.aload_n 0, 1) := by decide +kernel
theorem dX8_faultOfMoves_18 : decode cX8_faultOfMoves 18 = .ok (.getfield 10, 3) := by decide +kernel
theorem dX8_faultOfMoves_21 : decode cX8_faultOfMoves 21 = .ok (.getfield 67, 3) := by decide +kernel
theorem dX8_faultOfMoves_24 : decode cX8_faultOfMoves 24 = .ok (.if_icmp .ge 82, 3) := by decide +kernel
theorem dX8_faultOfMoves_27 : decode cX8_faultOfMoves 27 = .ok (.aload_n 0, 1) := by decide +kernel
theorem dX8_faultOfMoves_28 : decode cX8_faultOfMoves 28 = .ok (.getfield 10, 3) := by decide +kernel
theorem dX8_faultOfMoves_31 : decode cX8_faultOfMoves 31 = .ok (.iload_n 1, 1) := by decide +kernel
theorem dX8_faultOfMoves_32 : decode cX8_faultOfMoves 32 = .ok (.invokevirtual 94, 3) := by decide +kernel
theorem dX8_faultOfMoves_35 : decode cX8_faultOfMoves 35 = .ok (.bipush 97, 2) := by decide +kernel
theorem dX8_faultOfMoves_37 : decode cX8_faultOfMoves 37 = .ok (.isub, 1) := by decide +kernel
theorem dX8_faultOfMoves_38 : decode cX8_faultOfMoves 38 = .ok (.istore_n 2, 1) := by decide +kernel
theorem dX8_faultOfMoves_39 : decode cX8_faultOfMoves 39 = .ok (.aload_n 0, 1) := by decide +kernel
theorem dX8_faultOfMoves_40 : decode cX8_faultOfMoves 40 = .ok (.getfield 19, 3) := by decide +kernel
theorem dX8_faultOfMoves_43 : decode cX8_faultOfMoves 43 = .ok (.iload_n 2, 1) := by decide +kernel
theorem dX8_faultOfMoves_44 : decode cX8_faultOfMoves 44 = .ok (.invokevirtual 146, 3) := by decide +kernel
theorem dX8_faultOfMoves_47 : decode cX8_faultOfMoves 47 = .ok (.ifCond .ne 5, 3) := by decide +kernel
theorem dX8_faultOfMoves_50 : decode cX8_faultOfMoves 50 = .ok (.iload_n 1, 1) := by decide +kernel
theorem dX8_faultOfMoves_51 : decode cX8_faultOfMoves 51 = .ok (.ireturn, 1) := by decide +kernel
theorem dX8_faultOfMoves_52 : decode cX8_faultOfMoves 52 = .ok (.aload_n 0, 1) := by decide +kernel
theorem dX8_faultOfMoves_53 : decode cX8_faultOfMoves 53 = .ok (.getfield 10, 3) := by decide +kernel
theorem dX8_faultOfMoves_56 : decode cX8_faultOfMoves 56 = .ok (.iload_n 1, 1) := by decide +kernel
theorem dX8_faultOfMoves_57 : decode cX8_faultOfMoves 57 = .ok (.iconst 1, 1) := by decide +kernel
theorem dX8_faultOfMoves_58 : decode cX8_faultOfMoves 58 = .ok (.iadd, 1) := by decide +kernel
theorem dX8_faultOfMoves_59 : decode cX8_faultOfMoves 59 = .ok (.invokevirtual 94, 3) := by decide +kernel
theorem dX8_faultOfMoves_62 : decode cX8_faultOfMoves 62 = .ok (.invokestatic 98, 3) := by decide +kernel
theorem dX8_faultOfMoves_65 : decode cX8_faultOfMoves 65 = .ok (.istore_n 3, 1) := by decide +kernel
theorem dX8_faultOfMoves_66 : decode cX8_faultOfMoves 66 = .ok (.iload_n 3, 1) := by decide +kernel
theorem dX8_faultOfMoves_67 : decode cX8_faultOfMoves 67 = .ok (.ifCond .lt 15, 3) := by decide +kernel
theorem dX8_faultOfMoves_70 : decode cX8_faultOfMoves 70 = .ok (.aload_n 0, 1) := by decide +kernel
theorem dX8_faultOfMoves_71 : decode cX8_faultOfMoves 71 = .ok (.getfield 37, 3) := by decide +kernel
theorem dX8_faultOfMoves_74 : decode cX8_faultOfMoves 74 = .ok (.iload_n 2, 1) := by decide +kernel
theorem dX8_faultOfMoves_75 : decode cX8_faultOfMoves 75 = .ok (.iload_n 3, 1) := by decide +kernel
theorem dX8_faultOfMoves_76 : decode cX8_faultOfMoves 76 = .ok (.invokevirtual 215, 3) := by decide +kernel
theorem dX8_faultOfMoves_79 : decode cX8_faultOfMoves 79 = .ok (.ifCond .ne 7, 3) := by decide +kernel
theorem dX8_faultOfMoves_82 : decode cX8_faultOfMoves 82 = .ok (.iload_n 1, 1) := by decide +kernel
theorem dX8_faultOfMoves_83 : decode cX8_faultOfMoves 83 = .ok (.iconst 1, 1) := by decide +kernel
theorem dX8_faultOfMoves_84 : decode cX8_faultOfMoves 84 = .ok (.iadd, 1) := by decide +kernel
theorem dX8_faultOfMoves_85 : decode cX8_faultOfMoves 85 = .ok (.ireturn, 1) := by decide +kernel
theorem dX8_faultOfMoves_86 : decode cX8_faultOfMoves 86 = .ok (.aload_n 0, 1) := by decide +kernel
theorem dX8_faultOfMoves_87 : decode cX8_faultOfMoves 87 = .ok (.getfield 37, 3) := by decide +kernel
theorem dX8_faultOfMoves_90 : decode cX8_faultOfMoves 90 = .ok (.aload_n 0, 1) := by decide +kernel
theorem dX8_faultOfMoves_91 : decode cX8_faultOfMoves 91 = .ok (.getfield 37, 3) := by decide +kernel
theorem dX8_faultOfMoves_94 : decode cX8_faultOfMoves 94 = .ok (.getfield 256, 3) := by decide +kernel
theorem dX8_faultOfMoves_97 : decode cX8_faultOfMoves 97 = .ok (.invokevirtual 136, 3) := by decide +kernel
theorem dX8_faultOfMoves_100 : decode cX8_faultOfMoves 100 = .ok (.iinc 1 2, 3) := by decide +kernel
theorem dX8_faultOfMoves_103 : decode cX8_faultOfMoves 103 = .ok (.goto (-87), 3) := by decide +kernel
theorem dX8_faultOfMoves_106 : decode cX8_faultOfMoves 106 = .ok (.iconst (-1), 1) := by decide +kernel
theorem dX8_faultOfMoves_107 : decode cX8_faultOfMoves 107 = .ok (.ireturn, 1) := by decide +kernel
theorem dX8_isEmptySlot_0 : decode cX8_isEmptySlot 0 = .ok (.aload_n 0, 1) := by decide +kernel
theorem dX8_isEmptySlot_1 : decode cX8_isEmptySlot 1 = .ok (.getfield 59, 3) := by decide +kernel
theorem dX8_isEmptySlot_4 : decode cX8_isEmptySlot 4 = .ok (.iload_n 1, 1) := by decide +kernel
theorem dX8_isEmptySlot_5 : decode cX8_isEmptySlot 5 = .ok (.ishr, 1) := by decide +kernel
theorem dX8_isEmptySlot_6 : decode cX8_isEmptySlot 6 = .ok (.iconst 1, 1) := by decide +kernel
theorem dX8_isEmptySlot_7 : decode cX8_isEmptySlot 7 = .ok (.iand, 1) := by decide +kernel
theorem dX8_isEmptySlot_8 : decode cX8_isEmptySlot 8 = .ok (.ifCond .ne 7, 3) := by decide +kernel
theorem dX8_isEmptySlot_11 : decode cX8_isEmptySlot 11 = .ok (.iconst 1, 1) := by decide +kernel
theorem dX8_isEmptySlot_12 : decode cX8_isEmptySlot 12 = .ok (.goto 4, 3) := by decide +kernel
theorem dX8_isEmptySlot_15 : decode cX8_isEmptySlot 15 = .ok (.iconst 0, 1) := by decide +kernel
theorem dX8_isEmptySlot_16 : decode cX8_isEmptySlot 16 = .ok (.ireturn, 1) := by decide +kernel
theorem dX8_isSlot_0 : decode cX8_isSlot 0 = .ok (.iload_n 0, 1) := by decide +kernel
theorem dX8_isSlot_1 : decode cX8_isSlot 1 = .ok (.ifCond .lt 12, 3) := by decide +kernel
theorem dX8_isSlot_4 : decode cX8_isSlot 4 = .ok (.iload_n 0, 1) := by decide +kernel
theorem dX8_isSlot_5 : decode cX8_isSlot 5 = .ok (.iconst 4, 1) := by decide +kernel
theorem dX8_isSlot_6 : decode cX8_isSlot 6 = .ok (.if_icmp .ge 7, 3) := by decide +kernel
theorem dX8_isSlot_9 : decode cX8_isSlot 9 = .ok (.iconst 1, 1) := by decide +kernel
theorem dX8_isSlot_10 : decode cX8_isSlot 10 = .ok (.goto 4, 3) := by decide +kernel
theorem dX8_isSlot_13 : decode cX8_isSlot 13 = .ok (.iconst 0, 1) := by decide +kernel
theorem dX8_isSlot_14 : decode cX8_isSlot 14 = .ok (.ireturn, 1) := by decide +kernel
theorem dX8_isGroup_0 : decode cX8_isGroup 0 = .ok (.iload_n 0, 1) := by decide +kernel
theorem dX8_isGroup_1 : decode cX8_isGroup 1 = .ok (.ifCond .lt 12, 3) := by decide +kernel
theorem dX8_isGroup_4 : decode cX8_isGroup 4 = .ok (.iload_n 0, 1) := by decide +kernel
theorem dX8_isGroup_5 : decode cX8_isGroup 5 = .ok (.iconst 4, 1) := by decide +kernel
theorem dX8_isGroup_6 : decode cX8_isGroup 6 = .ok (.if_icmp .ge 7, 3) := by decide +kernel
theorem dX8_isGroup_9 : decode cX8_isGroup 9 = .ok (.iconst 1, 1) := by decide +kernel
theorem dX8_isGroup_10 : decode cX8_isGroup 10 = .ok (.goto 4, 3) := by decide +kernel
theorem dX8_isGroup_13 : decode cX8_isGroup 13 = .ok (.iconst 0, 1) := by decide +kernel
theorem dX8_isGroup_14 : decode cX8_isGroup 14 = .ok (.ireturn, 1) := by decide +kernel
theorem dX8_kindOfLetter_0 : decode cX8_kindOfLetter 0 = .ok (.iload_n 0, 1) := by decide +kernel
theorem dX8_kindOfLetter_1 : decode cX8_kindOfLetter 1 = .ok (.getstatic 264, 3) := by decide +kernel
theorem dX8_kindOfLetter_4 : decode cX8_kindOfLetter 4 = .ok (.invokestatic 268, 3) := by decide +kernel
theorem dX8_kindOfLetter_7 : decode cX8_kindOfLetter 7 = .ok (.ireturn, 1) := by decide +kernel
theorem dX8_placeOf_0 : decode cX8_placeOf 0 = .ok (.iconst 0, 1) := by decide +kernel
theorem dX8_placeOf_1 : decode cX8_placeOf 1 = .ok (.istore_n 2, 1) := by decide +kernel
theorem dX8_placeOf_2 : decode cX8_placeOf 2 = .ok (.iload_n 2, 1) := by decide +kernel
theorem dX8_placeOf_3 : decode cX8_placeOf 3 = .ok (.aload_n 1, 1) := by decide +kernel
theorem dX8_placeOf_4 : decode cX8_placeOf 4 = .ok (.arraylength, 1) := by decide +kernel
theorem dX8_placeOf_5 : decode cX8_placeOf 5 = .ok (.if_icmp .ge 18, 3) := by decide +kernel
theorem dX8_placeOf_8 : decode cX8_placeOf 8 = .ok (.aload_n 1, 1) := by decide +kernel
theorem dX8_placeOf_9 : decode cX8_placeOf 9 = .ok (.iload_n 2, 1) := by decide +kernel
theorem dX8_placeOf_10 : decode cX8_placeOf 10 = .ok (.caload, 1) := by decide +kernel
theorem dX8_placeOf_11 : decode cX8_placeOf 11 = .ok (.iload_n 0, 1) := by decide +kernel
theorem dX8_placeOf_12 : decode cX8_placeOf 12 = .ok (.if_icmp .ne 5, 3) := by decide +kernel
theorem dX8_placeOf_15 : decode cX8_placeOf 15 = .ok (.iload_n 2, 1) := by decide +kernel
theorem dX8_placeOf_16 : decode cX8_placeOf 16 = .ok (.ireturn, 1) := by decide +kernel
theorem dX8_placeOf_17 : decode cX8_placeOf 17 = .ok (.iinc 2 1, 3) := by decide +kernel
theorem dX8_placeOf_20 : decode cX8_placeOf 20 = .ok (.goto (-18), 3) := by decide +kernel
theorem dX8_placeOf_23 : decode cX8_placeOf 23 = .ok (.iconst (-1), 1) := by decide +kernel
theorem dX8_placeOf_24 : decode cX8_placeOf 24 = .ok (.ireturn, 1) := by decide +kernel
theorem dX8_moveCode_0 : decode cX8_moveCode 0 = .ok (.bipush 10, 2) := by decide +kernel
theorem dX8_moveCode_2 : decode cX8_moveCode 2 = .ok (.iload_n 0, 1) := by decide +kernel
theorem dX8_moveCode_3 : decode cX8_moveCode 3 = .ok (.imul, 1) := by decide +kernel
theorem dX8_moveCode_4 : decode cX8_moveCode 4 = .ok (.iload_n 1, 1) := by decide +kernel
theorem dX8_moveCode_5 : decode cX8_moveCode 5 = .ok (.iadd, 1) := by decide +kernel
theorem dX8_moveCode_6 : decode cX8_moveCode 6 = .ok (.ireturn, 1) := by decide +kernel
theorem dX8_holds_0 : decode cX8_holds 0 = .ok (.lload_n 0, 1) := by decide +kernel
theorem dX8_holds_1 : decode cX8_holds 1 = .ok (.iload_n 2, 1) := by decide +kernel
theorem dX8_holds_2 : decode cX8_holds 2 = .ok (.lushr, 1) := by decide +kernel
theorem dX8_holds_3 : decode cX8_holds 3 = .ok (.lconst 1, 1) := by decide +kernel
theorem dX8_holds_4 : decode cX8_holds 4 = .ok (.land, 1) := by decide +kernel
theorem dX8_holds_5 : decode cX8_holds 5 = .ok (.lconst 0, 1) := by decide +kernel
theorem dX8_holds_6 : decode cX8_holds 6 = .ok (.lcmp, 1) := by decide +kernel
theorem dX8_holds_7 : decode cX8_holds 7 = .ok (.ifCond .eq 7, 3) := by decide +kernel
theorem dX8_holds_10 : decode cX8_holds 10 = .ok (.iconst 1, 1) := by decide +kernel
theorem dX8_holds_11 : decode cX8_holds 11 = .ok (.goto 4, 3) := by decide +kernel
theorem dX8_holds_14 : decode cX8_holds 14 = .ok (.iconst 0, 1) := by decide +kernel
theorem dX8_holds_15 : decode cX8_holds 15 = .ok (.ireturn, 1) := by decide +kernel
theorem dX8_columnOf_0 : decode cX8_columnOf 0 = .ok (.iload_n 0, 1) := by decide +kernel
theorem dX8_columnOf_1 : decode cX8_columnOf 1 = .ok (.bipush 7, 2) := by decide +kernel
theorem dX8_columnOf_3 : decode cX8_columnOf 3 = .ok (.iand, 1) := by decide +kernel
theorem dX8_columnOf_4 : decode cX8_columnOf 4 = .ok (.ireturn, 1) := by decide +kernel
theorem dX8_rowOf_0 : decode cX8_rowOf 0 = .ok (.iload_n 0, 1) := by decide +kernel
theorem dX8_rowOf_1 : decode cX8_rowOf 1 = .ok (.iconst 3, 1) := by decide +kernel
theorem dX8_rowOf_2 : decode cX8_rowOf 2 = .ok (.ishr, 1) := by decide +kernel
theorem dX8_rowOf_3 : decode cX8_rowOf 3 = .ok (.bipush 7, 2) := by decide +kernel
theorem dX8_rowOf_5 : decode cX8_rowOf 5 = .ok (.iand, 1) := by decide +kernel
theorem dX8_rowOf_6 : decode cX8_rowOf 6 = .ok (.ireturn, 1) := by decide +kernel
theorem dX8_orientationOf_0 : decode cX8_orientationOf 0 = .ok (.iload_n 0, 1) := by decide +kernel
theorem dX8_orientationOf_1 : decode cX8_orientationOf 1 = .ok (.bipush 6, 2) := by decide +kernel
theorem dX8_orientationOf_3 : decode cX8_orientationOf 3 = .ok (.ishr, 1) := by decide +kernel
theorem dX8_orientationOf_4 : decode cX8_orientationOf 4 = .ok (.iconst 3, 1) := by decide +kernel
theorem dX8_orientationOf_5 : decode cX8_orientationOf 5 = .ok (.iand, 1) := by decide +kernel
theorem dX8_orientationOf_6 : decode cX8_orientationOf 6 = .ok (.ireturn, 1) := by decide +kernel
theorem dX8_placementIn_0 : decode cX8_placementIn 0 = .ok (.lload_n 0, 1) := by decide +kernel
theorem dX8_placementIn_1 : decode cX8_placementIn 1 = .ok (.bipush 8, 2) := by decide +kernel
theorem dX8_placementIn_3 : decode cX8_placementIn 3 = .ok (.iload_n 2, 1) := by decide +kernel
theorem dX8_placementIn_4 : decode cX8_placementIn 4 = .ok (.imul, 1) := by decide +kernel
theorem dX8_placementIn_5 : decode cX8_placementIn 5 = .ok (.lushr, 1) := by decide +kernel
theorem dX8_placementIn_6 : decode cX8_placementIn 6 = .ok (.l2i, 1) := by decide +kernel
theorem dX8_placementIn_7 : decode cX8_placementIn 7 = .ok (.sipush 255, 3) := by decide +kernel
theorem dX8_placementIn_10 : decode cX8_placementIn 10 = .ok (.iand, 1) := by decide +kernel
theorem dX8_placementIn_11 : decode cX8_placementIn 11 = .ok (.ireturn, 1) := by decide +kernel
theorem dX8_withPlacement_0 : decode cX8_withPlacement 0 = .ok (.bipush 8, 2) := by decide +kernel
theorem dX8_withPlacement_2 : decode cX8_withPlacement 2 = .ok (.iload_n 2, 1) := by decide +kernel
theorem dX8_withPlacement_3 : decode cX8_withPlacement 3 = .ok (.imul, 1) := by decide +kernel
theorem dX8_withPlacement_4 : decode cX8_withPlacement 4 = .ok (.istore 4, 2) := by decide +kernel
theorem dX8_withPlacement_6 : decode cX8_withPlacement 6 = .ok (.lload_n 0, 1) := by decide +kernel
theorem dX8_withPlacement_7 : decode cX8_withPlacement 7 = .ok (.ldc2_w 272, 3) := by decide +kernel
