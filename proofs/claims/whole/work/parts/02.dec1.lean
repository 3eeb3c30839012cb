theorem dX2_init_60 : decode cX2_init 60 = .ok (.dup, 1) := by decide +kernel
theorem dX2_init_61 : decode cX2_init 61 = .ok (.invokespecial 35, 3) := by decide +kernel
theorem dX2_init_64 : decode cX2_init 64 = .ok (.aastore, 1) := by decide +kernel
theorem dX2_init_65 : decode cX2_init 65 = .ok (.iinc 1 1, 3) := by decide +kernel
theorem dX2_init_68 : decode cX2_init 68 = .ok (.goto (-21), 3) := by decide +kernel
theorem dX2_init_71 : decode cX2_init 71 = .ok (.aload_n 0, 1) := by decide +kernel
theorem dX2_init_72 : decode cX2_init 72 = .ok (.getfield 24, 3) := by decide +kernel
theorem dX2_init_75 : decode cX2_init 75 = .ok (.iconst 1, 1) := by decide +kernel
theorem dX2_init_76 : decode cX2_init 76 = .ok (.invokestatic 36, 3) := by decide +kernel
theorem dX2_init_79 : decode cX2_init 79 = .ok (.return_, 1) := by decide +kernel
theorem dX2_clear_0 : decode cX2_clear 0 = .ok (.aload_n 0, 1) := by decide +kernel
theorem dX2_clear_1 : decode cX2_clear 1 = .ok (.getfield 12, 3) := by decide +kernel
theorem dX2_clear_4 : decode cX2_clear 4 = .ok (.iload_n 1, 1) := by decide +kernel
theorem dX2_clear_5 : decode cX2_clear 5 = .ok (.iload_n 2, 1) := by decide +kernel
theorem dX2_clear_6 : decode cX2_clear 6 = .ok (.invokevirtual 42, 3) := by decide +kernel
theorem dX2_clear_9 : decode cX2_clear 9 = .ok (.iconst 0, 1) := by decide +kernel
theorem dX2_clear_10 : decode cX2_clear 10 = .ok (.istore_n 3, 1) := by decide +kernel
theorem dX2_clear_11 : decode cX2_clear 11 = .ok (.iload_n 3, 1) := by decide +kernel
theorem dX2_clear_12 : decode cX2_clear 12 = .ok (.iconst 5, 1) := by decide +kernel
theorem dX2_clear_13 : decode cX2_clear 13 = .ok (.if_icmp .ge 18, 3) := by decide +kernel
theorem dX2_clear_16 : decode cX2_clear 16 = .ok (.aload_n 0, 1) := by decide +kernel
theorem dX2_clear_17 : decode cX2_clear 17 = .ok (.getfield 20, 3) := by decide +kernel
theorem dX2_clear_20 : decode cX2_clear 20 = .ok (.iload_n 3, 1) := by decide +kernel
theorem dX2_clear_21 : decode cX2_clear 21 = .ok (.aaload, 1) := by decide +kernel
theorem dX2_clear_22 : decode cX2_clear 22 = .ok (.invokevirtual 46, 3) := by decide +kernel
theorem dX2_clear_25 : decode cX2_clear 25 = .ok (.iinc 3 1, 3) := by decide +kernel
theorem dX2_clear_28 : decode cX2_clear 28 = .ok (.goto (-17), 3) := by decide +kernel
theorem dX2_clear_31 : decode cX2_clear 31 = .ok (.return_, 1) := by decide +kernel
theorem dX2_has_0 : decode cX2_has 0 = .ok (.iload_n 1, 1) := by decide +kernel
theorem dX2_has_1 : decode cX2_has 1 = .ok (.ifCond .lt 24, 3) := by decide +kernel
theorem dX2_has_4 : decode cX2_has 4 = .ok (.iload_n 1, 1) := by decide +kernel
theorem dX2_has_5 : decode cX2_has 5 = .ok (.iconst 5, 1) := by decide +kernel
theorem dX2_has_6 : decode cX2_has 6 = .ok (.if_icmp .ge 19, 3) := by decide +kernel
theorem dX2_has_9 : decode cX2_has 9 = .ok (.aload_n 0, 1) := by decide +kernel
theorem dX2_has_10 : decode cX2_has 10 = .ok (.getfield 20, 3) := by decide +kernel
theorem dX2_has_13 : decode cX2_has 13 = .ok (.iload_n 1, 1) := by decide +kernel
theorem dX2_has_14 : decode cX2_has 14 = .ok (.aaload, 1) := by decide +kernel
theorem dX2_has_15 : decode cX2_has 15 = .ok (.getfield 48, 3) := by decide +kernel
theorem dX2_has_18 : decode cX2_has 18 = .ok (.ifCond .le 7, 3) := by decide +kernel
theorem dX2_has_21 : decode cX2_has 21 = .ok (.iconst 1, 1) := by decide +kernel
theorem dX2_has_22 : decode cX2_has 22 = .ok (.goto 4, 3) := by decide +kernel
theorem dX2_has_25 : decode cX2_has 25 = .ok (.iconst 0, 1) := by decide +kernel
theorem dX2_has_26 : decode cX2_has 26 = .ok (.ireturn, 1) := by decide +kernel
theorem dX2_blockCount_0 : decode cX2_blockCount 0 = .ok (.iconst 0, 1) := by decide +kernel
theorem dX2_blockCount_1 : decode cX2_blockCount 1 = .ok (.istore_n 1, 1) := by decide +kernel
theorem dX2_blockCount_2 : decode cX2_blockCount 2 = .ok (.iconst 0, 1) := by decide +kernel
theorem dX2_blockCount_3 : decode cX2_blockCount 3 = .ok (.istore_n 2, 1) := by decide +kernel
theorem dX2_blockCount_4 : decode cX2_blockCount 4 = .ok (.iload_n 2, 1) := by decide +kernel
theorem dX2_blockCount_5 : decode cX2_blockCount 5 = .ok (.iconst 5, 1) := by decide +kernel
theorem dX2_blockCount_6 : decode cX2_blockCount 6 = .ok (.if_icmp .ge 20, 3) := by decide +kernel
theorem dX2_blockCount_9 : decode cX2_blockCount 9 = .ok (.aload_n 0, 1) := by decide +kernel
theorem dX2_blockCount_10 : decode cX2_blockCount 10 = .ok (.iload_n 2, 1) := by decide +kernel
theorem dX2_blockCount_11 : decode cX2_blockCount 11 = .ok (.invokevirtual 51, 3) := by decide +kernel
theorem dX2_blockCount_14 : decode cX2_blockCount 14 = .ok (.ifCond .eq 6, 3) := by decide +kernel
theorem dX2_blockCount_17 : decode cX2_blockCount 17 = .ok (.iinc 1 1, 3) := by decide +kernel
theorem dX2_blockCount_20 : decode cX2_blockCount 20 = .ok (.iinc 2 1, 3) := by decide +kernel
theorem dX2_blockCount_23 : decode cX2_blockCount 23 = .ok (.goto (-19), 3) := by decide +kernel
theorem dX2_blockCount_26 : decode cX2_blockCount 26 = .ok (.iload_n 1, 1) := by decide +kernel
theorem dX2_blockCount_27 : decode cX2_blockCount 27 = .ok (.ireturn, 1) := by decide +kernel
theorem dX2_weightOf_0 : decode cX2_weightOf 0 = .ok (.iconst 0, 1) := by decide +kernel
theorem dX2_weightOf_1 : decode cX2_weightOf 1 = .ok (.istore_n 2, 1) := by decide +kernel
theorem dX2_weightOf_2 : decode cX2_weightOf 2 = .ok (.iconst 0, 1) := by decide +kernel
theorem dX2_weightOf_3 : decode cX2_weightOf 3 = .ok (.istore_n 3, 1) := by decide +kernel
theorem dX2_weightOf_4 : decode cX2_weightOf 4 = .ok (.iload_n 3, 1) := by decide +kernel
theorem dX2_weightOf_5 : decode cX2_weightOf 5 = .ok (.iconst 5, 1) := by decide +kernel
theorem dX2_weightOf_6 : decode cX2_weightOf 6 = .ok (.if_icmp .ge 29, 3) := by decide +kernel
theorem dX2_weightOf_9 : decode cX2_weightOf 9 = .ok (.iload_n 1, 1) := by decide +kernel
theorem dX2_weightOf_10 : decode cX2_weightOf 10 = .ok (.iload_n 3, 1) := by decide +kernel
theorem dX2_weightOf_11 : decode cX2_weightOf 11 = .ok (.ishr, 1) := by decide +kernel
theorem dX2_weightOf_12 : decode cX2_weightOf 12 = .ok (.iconst 1, 1) := by decide +kernel
theorem dX2_weightOf_13 : decode cX2_weightOf 13 = .ok (.iand, 1) := by decide +kernel
theorem dX2_weightOf_14 : decode cX2_weightOf 14 = .ok (.ifCond .eq 15, 3) := by decide +kernel
theorem dX2_weightOf_17 : decode cX2_weightOf 17 = .ok (.iload_n 2, 1) := by decide +kernel
theorem dX2_weightOf_18 : decode cX2_weightOf 18 = .ok (.aload_n 0, 1) := by decide +kernel
theorem dX2_weightOf_19 : decode cX2_weightOf 19 = .ok (.getfield 20, 3) := by decide +kernel
theorem dX2_weightOf_22 : decode cX2_weightOf 22 = .ok (.iload_n 3, 1) := by decide +kernel
theorem dX2_weightOf_23 : decode cX2_weightOf 23 = .ok (.aaload, 1) := by decide +kernel
theorem dX2_weightOf_24 : decode cX2_weightOf 24 = .ok (.getfield 55, 3) := by decide +kernel
theorem dX2_weightOf_27 : decode cX2_weightOf 27 = .ok (.iadd, 1) := by decide +kernel
theorem dX2_weightOf_28 : decode cX2_weightOf 28 = .ok (.istore_n 2, 1) := by decide +kernel
theorem dX2_weightOf_29 : decode cX2_weightOf 29 = .ok (.iinc 3 1, 3) := by decide +kernel
theorem dX2_weightOf_32 : decode cX2_weightOf 32 = .ok (.goto (-28), 3) := by decide +kernel
theorem dX2_weightOf_35 : decode cX2_weightOf 35 = .ok (.iload_n 2, 1) := by decide +kernel
theorem dX2_weightOf_36 : decode cX2_weightOf 36 = .ok (.ireturn, 1) := by decide +kernel
theorem dX2_boundOf_0 : decode cX2_boundOf 0 = .ok (.iconst 0, 1) := by decide +kernel
theorem dX2_boundOf_1 : decode cX2_boundOf 1 = .ok (.istore_n 3, 1) := by decide +kernel
theorem dX2_boundOf_2 : decode cX2_boundOf 2 = .ok (.iconst 0, 1) := by decide +kernel
theorem dX2_boundOf_3 : decode cX2_boundOf 3 = .ok (.istore 4, 2) := by decide +kernel
theorem dX2_boundOf_5 : decode cX2_boundOf 5 = .ok (.iload 4, 2) := by decide +kernel
theorem dX2_boundOf_7 : decode cX2_boundOf 7 = .ok (.iconst 5, 1) := by decide +kernel
theorem dX2_boundOf_8 : decode cX2_boundOf 8 = .ok (.if_icmp .ge 42, 3) := by decide +kernel
theorem dX2_boundOf_11 : decode cX2_boundOf 11 = .ok (.aload_n 0, 1) := by decide +kernel
theorem dX2_boundOf_12 : decode cX2_boundOf 12 = .ok (.getfield 20, 3) := by decide +kernel
theorem dX2_boundOf_15 : decode cX2_boundOf 15 = .ok (.iload 4, 2) := by decide +kernel
theorem dX2_boundOf_17 : decode cX2_boundOf 17 = .ok (.aaload, 1) := by decide +kernel
theorem dX2_boundOf_18 : decode cX2_boundOf 18 = .ok (.getfield 58, 3) := by decide +kernel
theorem dX2_boundOf_21 : decode cX2_boundOf 21 = .ok (.lload_n 1, 1) := by decide +kernel
theorem dX2_boundOf_22 : decode cX2_boundOf 22 = .ok (.iload 4, 2) := by decide +kernel
theorem dX2_boundOf_24 : decode cX2_boundOf 24 = .ok (.invokestatic 61, 3) := by decide +kernel
theorem dX2_boundOf_27 : decode cX2_boundOf 27 = .ok (.iaload, 1) := by decide +kernel
theorem dX2_boundOf_28 : decode cX2_boundOf 28 = .ok (.istore 5, 2) := by decide +kernel
theorem dX2_boundOf_30 : decode cX2_boundOf 30 = .ok (.iload 5, 2) := by decide +kernel
theorem dX2_boundOf_32 : decode cX2_boundOf 32 = .ok (.ifCond .ge 5, 3) := by decide +kernel
theorem dX2_boundOf_35 : decode cX2_boundOf 35 = .ok (.iconst (-1), 1) := by decide +kernel
theorem dX2_boundOf_36 : decode cX2_boundOf 36 = .ok (.ireturn, 1) := by decide +kernel
theorem dX2_boundOf_37 : decode cX2_boundOf 37 = .ok (.iload_n 3, 1) := by decide +kernel
theorem dX2_boundOf_38 : decode cX2_boundOf 38 = .ok (.iload 5, 2) := by decide +kernel
theorem dX2_boundOf_40 : decode cX2_boundOf 40 = .ok (.invokestatic 65, 3) := by decide +kernel
theorem dX2_boundOf_43 : decode cX2_boundOf 43 = .ok (.istore_n 3, 1) := by decide +kernel
theorem dX2_boundOf_44 : decode cX2_boundOf 44 = .ok (.iinc 4 1, 3) := by decide +kernel
theorem dX2_boundOf_47 : decode cX2_boundOf 47 = .ok (.goto (-42), 3) := by decide +kernel
theorem dX2_boundOf_50 : decode cX2_boundOf 50 = .ok (.iload_n 3, 1) := by decide +kernel
theorem dX2_boundOf_51 : decode cX2_boundOf 51 = .ok (.ireturn, 1) := by decide +kernel
theorem dX3_init_0 : decode cX3_init 0 = .ok (.aload_n 0, 1) := by decide +kernel
theorem dX3_init_1 : decode cX3_init 1 = .ok (.invokespecial 3, 3) := by decide +kernel
theorem dX3_init_4 : decode cX3_init 4 = .ok (.aload_n 0, 1) := by decide +kernel
theorem dX3_init_5 : decode cX3_init 5 = .ok (.iconst 5, 1) := by decide +kernel
theorem dX3_init_6 : decode cX3_init 6 = .ok (.newarray .int, 2) := by decide +kernel
theorem dX3_init_8 : decode cX3_init 8 = .ok (.putfield 9, 3) := by decide +kernel
theorem dX3_init_11 : decode cX3_init 11 = .ok (.aload_n 0, 1) := by decide +kernel
theorem dX3_init_12 : decode cX3_init 12 = .ok (.iconst 5, 1) := by decide +kernel
theorem dX3_init_13 : decode cX3_init 13 = .ok (.newarray .int, 2) := by decide +kernel
theorem dX3_init_15 : decode cX3_init 15 = .ok (.putfield 15, 3) := by decide +kernel
theorem dX3_init_18 : decode cX3_init 18 = .ok (.aload_n 0, 1) := by decide +kernel
theorem dX3_init_19 : decode cX3_init 19 = .ok (.iconst 5, 1) := by decide +kernel
theorem dX3_init_20 : decode cX3_init 20 = .ok (.newarray .int, 2) := by decide +kernel
theorem dX3_init_22 : decode cX3_init 22 = .ok (.putfield 18, 3) := by decide +kernel
theorem dX3_init_25 : decode cX3_init 25 = .ok (.aload_n 0, 1) := by decide +kernel
theorem dX3_init_26 : decode cX3_init 26 = .ok (.iconst 0, 1) := by decide +kernel
theorem dX3_init_27 : decode cX3_init 27 = .ok (.putfield 21, 3) := by decide +kernel
theorem dX3_init_30 : decode cX3_init 30 = .ok (.aload_n 0, 1) := by decide +kernel
theorem dX3_init_31 : decode cX3_init 31 = .ok (.iconst 0, 1) := by decide +kernel
theorem dX3_init_32 : decode cX3_init 32 = .ok (.putfield 25, 3) := by decide +kernel
theorem dX3_init_35 : decode cX3_init 35 = .ok (.aload_n 0, 1) := by decide +kernel
theorem dX3_init_36 : decode cX3_init 36 = .ok (.iconst 0, 1) := by decide +kernel
theorem dX3_init_37 : decode cX3_init 37 = .ok (.putfield 28, 3) := by decide +kernel
theorem dX3_init_40 : decode cX3_init 40 = .ok (.aload_n 0, 1) := by decide +kernel
theorem dX3_init_41 : decode cX3_init 41 = .ok (.aload_n 1, 1) := by decide +kernel
theorem dX3_init_42 : decode cX3_init 42 = .ok (.putfield 31, 3) := by decide +kernel
theorem dX3_init_45 : decode cX3_init 45 = .ok (.return_, 1) := by decide +kernel
theorem dX3_fault_0 : decode cX3_fault 0 = .ok (.aload_n 0, 1) := by decide +kernel
theorem dX3_fault_1 : decode cX3_fault 1 = .ok (.getfield 9, 3) := by decide +kernel
theorem dX3_fault_4 : decode cX3_fault 4 = .ok (.iconst 0, 1) := by decide +kernel
theorem dX3_fault_5 : decode cX3_fault 5 = .ok (.invokestatic 35, 3) := by decide +kernel
theorem dX3_fault_8 : decode cX3_fault 8 = .ok (.aload_n 0, 1) := by decide +kernel
theorem dX3_fault_9 : decode cX3_fault 9 = .ok (.getfield 18, 3) := by decide +kernel
theorem dX3_fault_12 : decode cX3_fault 12 = .ok (.iconst (-1), 1) := by decide +kernel
theorem dX3_fault_13 : decode cX3_fault 13 = .ok (.invokestatic 35, 3) := by decide +kernel
theorem dX3_fault_16 : decode cX3_fault 16 = .ok (.aload_n 0, 1) := by decide +kernel
theorem dX3_fault_17 : decode cX3_fault 17 = .ok (.bipush 8, 2) := by decide +kernel
theorem dX3_fault_19 : decode cX3_fault 19 = .ok (.putfield 21, 3) := by decide +kernel
theorem dX3_fault_22 : decode cX3_fault 22 = .ok (.aload_n 0, 1) := by decide +kernel
theorem dX3_fault_23 : decode cX3_fault 23 = .ok (.iconst 0, 1) := by decide +kernel
theorem dX3_fault_24 : decode cX3_fault 24 = .ok (.putfield 25, 3) := by decide +kernel
theorem dX3_fault_27 : decode cX3_fault 27 = .ok (.aload_n 0, 1) := by decide +kernel
theorem dX3_fault_28 : decode cX3_fault 28 = .ok (.iconst 0, 1) := by decide +kernel
theorem dX3_fault_29 : decode cX3_fault 29 = .ok (.putfield 28, 3) := by decide +kernel
theorem dX3_fault_32 : decode cX3_fault 32 = .ok (.iconst 0, 1) := by decide +kernel
theorem dX3_fault_33 : decode cX3_fault 33 = .ok (.istore_n 1, 1) := by decide +kernel
theorem dX3_fault_34 : decode cX3_fault 34 = .ok (.iload_n 1, 1) := by decide +kernel
theorem dX3_fault_35 : decode cX3_fault 35 = .ok (.aload_n 0, 1) := by decide +kernel
theorem dX3_fault_36 : decode cX3_fault 36 = .ok (.getfield 31, 3) := by decide +kernel
theorem dX3_fault_39 : decode cX3_fault 39 = .ok (.getfield 41, 3) := by decide +kernel
theorem dX3_fault_42 : decode cX3_fault 42 = .ok (.if_icmp .ge 44, 3) := by decide +kernel
theorem dX3_fault_45 : decode cX3_fault 45 = .ok (.aload_n 0, 1) := by decide +kernel
theorem dX3_fault_46 : decode cX3_fault 46 = .ok (.getfield 31, 3) := by decide +kernel
theorem dX3_fault_49 : decode cX3_fault 49 = .ok (.iload_n 1, 1) := by decide +kernel
theorem dX3_fault_50 : decode cX3_fault 50 = .ok (.invokevirtual 46, 3) := by decide +kernel
theorem dX3_fault_53 : decode cX3_fault 53 = .ok (.istore_n 2, 1) := by decide +kernel
theorem dX3_fault_54 : decode cX3_fault 54 = .ok (.iload_n 2, 1) := by decide +kernel
theorem dX3_fault_55 : decode cX3_fault 55 = .ok (.bipush 47, 2) := by decide +kernel
theorem dX3_fault_57 : decode cX3_fault 57 = .ok (.if_icmp .ne 10, 3) := by decide +kernel
theorem dX3_fault_60 : decode cX3_fault 60 = .ok (.aload_n 0, 1) := by decide +kernel
theorem dX3_fault_61 : decode cX3_fault 61 = .ok (.invokevirtual 50, 3) := by decide +kernel
theorem dX3_fault_64 : decode cX3_fault 64 = .ok (.goto 9, 3) := by decide +kernel
theorem dX3_fault_67 : decode cX3_fault 67 = .ok (.aload_n 0, 1) := by decide +kernel
theorem dX3_fault_68 : decode cX3_fault 68 = .ok (.iload_n 2, 1) := by decide +kernel
theorem dX3_fault_69 : decode cX3_fault 69 = .ok (.iload_n 1, 1) := by decide +kernel
theorem dX3_fault_70 : decode cX3_fault 70 = .ok (.invokevirtual 54, 3) := by decide +kernel
theorem dX3_fault_73 : decode cX3_fault 73 = .ok (.istore_n 3, 1) := by decide +kernel
theorem dX3_fault_74 : decode cX3_fault 74 = .ok (.iload_n 3, 1) := by decide +kernel
theorem dX3_fault_75 : decode cX3_fault 75 = .ok (.ifCond .ne 5, 3) := by decide +kernel
theorem dX3_fault_78 : decode cX3_fault 78 = .ok (.iload_n 1, 1) := by decide +kernel
theorem dX3_fault_79 : decode cX3_fault 79 = .ok (.ireturn, 1) := by decide +kernel
theorem dX3_fault_80 : decode cX3_fault 80 = .ok (.iinc 1 1, 3) := by decide +kernel
theorem dX3_fault_83 : decode cX3_fault 83 = .ok (.goto (-49), 3) := by decide +kernel
theorem dX3_fault_86 : decode cX3_fault 86 = .ok (.aload_n 0, 1) := by decide +kernel
theorem dX3_fault_87 : decode cX3_fault 87 = .ok (.getfield 25, 3) := by decide +kernel
theorem dX3_fault_90 : decode cX3_fault 90 = .ok (.iconst 1, 1) := by decide +kernel
theorem dX3_fault_91 : decode cX3_fault 91 = .ok (.iadd, 1) := by decide +kernel
theorem dX3_fault_92 : decode cX3_fault 92 = .ok (.iconst 3, 1) := by decide +kernel
theorem dX3_fault_93 : decode cX3_fault 93 = .ok (.if_icmp .lt 18, 3) := by decide +kernel
theorem dX3_fault_96 : decode cX3_fault 96 = .ok (.aload_n 0, 1) := by decide +kernel
theorem dX3_fault_97 : decode cX3_fault 97 = .ok (.getfield 28, 3) := by decide +kernel
theorem dX3_fault_100 : decode cX3_fault 100 = .ok (.aload_n 0, 1) := by decide +kernel
theorem dX3_fault_101 : decode cX3_fault 101 = .ok (.getfield 21, 3) := by decide +kernel
theorem dX3_fault_104 : decode cX3_fault 104 = .ok (.if_icmp .ne 7, 3) := by decide +kernel
theorem dX3_fault_107 : decode cX3_fault 107 = .ok (.iconst 1, 1) := by decide +kernel
theorem dX3_fault_108 : decode cX3_fault 108 = .ok (.goto 4, 3) := by decide +kernel
theorem dX3_fault_111 : decode cX3_fault 111 = .ok (.iconst 0, 1) := by decide +kernel
theorem dX3_fault_112 : decode cX3_fault 112 = .ok (.istore_n 1, 1) := by decide +kernel
theorem dX3_fault_113 : decode cX3_fault 113 = .ok (.iload_n 1, 1) := by decide +kernel
theorem dX3_fault_114 : decode cX3_fault 114 = .ok (.ifCond .eq 10, 3) := by decide +kernel
theorem dX3_fault_117 : decode cX3_fault 117 = .ok (.aload_n 0, 1) := by decide +kernel
theorem dX3_fault_118 : decode cX3_fault 118 = .ok (.invokevirtual 58, 3) := by decide +kernel
theorem dX3_fault_121 : decode cX3_fault 121 = .ok (.goto 10, 3) := by decide +kernel
theorem dX3_fault_124 : decode cX3_fault 124 = .ok (.aload_n 0, 1) := by decide +kernel
theorem dX3_fault_125 : decode cX3_fault 125 = .ok (.getfield 31, 3) := by decide +kernel
theorem dX3_fault_128 : decode cX3_fault 128 = .ok (.getfield 41, 3) := by decide +kernel
theorem dX3_fault_131 : decode cX3_fault 131 = .ok (.ireturn, 1) := by decide +kernel
theorem dX3_endRow_0 : decode cX3_endRow 0 = .ok (.aload_n 0, 1) := by decide +kernel
theorem dX3_endRow_1 : decode cX3_endRow 1 = .ok (.getfield 25, 3) := by decide +kernel
theorem dX3_endRow_4 : decode cX3_endRow 4 = .ok (.ifCond .ne 19, 3) := by decide +kernel
theorem dX3_endRow_7 : decode cX3_endRow 7 = .ok (.aload_n 0, 1) := by decide +kernel
theorem dX3_endRow_8 : decode cX3_endRow 8 = .ok (.getfield 28, 3) := by decide +kernel
theorem dX3_endRow_11 : decode cX3_endRow 11 = .ok (.iconst 3, 1) := by decide +kernel
theorem dX3_endRow_12 : decode cX3_endRow 12 = .ok (.if_icmp .lt 7, 3) := by decide +kernel
theorem dX3_endRow_15 : decode cX3_endRow 15 = .ok (.iconst 1, 1) := by decide +kernel
theorem dX3_endRow_16 : decode cX3_endRow 16 = .ok (.goto 23, 3) := by decide +kernel
theorem dX3_endRow_19 : decode cX3_endRow 19 = .ok (.iconst 0, 1) := by decide +kernel
theorem dX3_endRow_20 : decode cX3_endRow 20 = .ok (.goto 19, 3) := by decide +kernel
theorem dX3_endRow_23 : decode cX3_endRow 23 = .ok (.aload_n 0, 1) := by decide +kernel
theorem dX3_endRow_24 : decode cX3_endRow 24 = .ok (.getfield 28, 3) := by decide +kernel
theorem dX3_endRow_27 : decode cX3_endRow 27 = .ok (.aload_n 0, 1) := by decide +kernel
theorem dX3_endRow_28 : decode cX3_endRow 28 = .ok (.getfield 21, 3) := by decide +kernel
theorem dX3_endRow_31 : decode cX3_endRow 31 = .ok (.if_icmp .ne 7, 3) := by decide +kernel
theorem dX3_endRow_34 : decode cX3_endRow 34 = .ok (.iconst 1, 1) := by decide +kernel
theorem dX3_endRow_35 : decode cX3_endRow 35 = .ok (.goto 4, 3) := by decide +kernel
theorem dX3_endRow_38 : decode cX3_endRow 38 = .ok (.iconst 0, 1) := by decide +kernel
theorem dX3_endRow_39 : decode cX3_endRow 39 = .ok (.istore_n 1, 1) := by decide +kernel
theorem dX3_endRow_40 : decode cX3_endRow 40 = .ok (.iload_n 1, 1) := by decide +kernel
theorem dX3_endRow_41 : decode cX3_endRow 41 = .ok (.ifCond .eq 14, 3) := by decide +kernel
theorem dX3_endRow_44 : decode cX3_endRow 44 = .ok (.aload_n 0, 1) := by decide +kernel
theorem dX3_endRow_45 : decode cX3_endRow 45 = .ok (.getfield 25, 3) := by decide +kernel
theorem dX3_endRow_48 : decode cX3_endRow 48 = .ok (.iconst 1, 1) := by decide +kernel
theorem dX3_endRow_49 : decode cX3_endRow 49 = .ok (.iadd, 1) := by decide +kernel
theorem dX3_endRow_50 : decode cX3_endRow 50 = .ok (.bipush 8, 2) := by decide +kernel
theorem dX3_endRow_52 : decode cX3_endRow 52 = .ok (.if_icmp .lt 5, 3) := by decide +kernel
theorem dX3_endRow_55 : decode cX3_endRow 55 = .ok (.iconst 0, 1) := by decide +kernel
theorem dX3_endRow_56 : decode cX3_endRow 56 = .ok (.ireturn, 1) := by decide +kernel
theorem dX3_endRow_57 : decode cX3_endRow 57 = .ok (.aload_n 0, 1) := by decide +kernel
theorem dX3_endRow_58 : decode cX3_endRow 58 = .ok (.aload_n 0, 1) := by decide +kernel
theorem dX3_endRow_59 : decode cX3_endRow 59 = .ok (.getfield 28, 3) := by decide +kernel
theorem dX3_endRow_62 : decode cX3_endRow 62 = .ok (.putfield 21, 3) := by decide +kernel
theorem dX3_endRow_65 : decode cX3_endRow 65 = .ok (.aload_n 0, 1) := by decide +kernel
theorem dX3_endRow_66 : decode cX3_endRow 66 = .ok (.dup, 1) := by decide +kernel
theorem dX3_endRow_67 : decode cX3_endRow 67 = .ok (.getfield 25, 3) := by decide +kernel
theorem dX3_endRow_70 : decode cX3_endRow 70 = .ok (.iconst 1, 1) := by decide +kernel
theorem dX3_endRow_71 : decode cX3_endRow 71 = .ok (.iadd, 1) := by decide +kernel
theorem dX3_endRow_72 : decode cX3_endRow 72 = .ok (.putfield 25, 3) := by decide +kernel
theorem dX3_endRow_75 : decode cX3_endRow 75 = .ok (.aload_n 0, 1) := by decide +kernel
theorem dX3_endRow_76 : decode cX3_endRow 76 = .ok (.iconst 0, 1) := by decide +kernel
theorem dX3_endRow_77 : decode cX3_endRow 77 = .ok (.putfield 28, 3) := by decide +kernel
theorem dX3_endRow_80 : decode cX3_endRow 80 = .ok (.iconst 1, 1) := by decide +kernel
theorem dX3_endRow_81 : decode cX3_endRow 81 = .ok (.ireturn, 1) := by decide +kernel
theorem dX3_addCell_0 : decode cX3_addCell 0 = .ok (.aload_n 0, 1) := by decide +kernel
theorem dX3_addCell_1 : decode cX3_addCell 1 = .ok (.getfield 28, 3) := by decide +kernel
theorem dX3_addCell_4 : decode cX3_addCell 4 = .ok (.aload_n 0, 1) := by decide +kernel
theorem dX3_addCell_5 : decode cX3_addCell 5 = .ok (.getfield 21, 3) := by decide +kernel
theorem dX3_addCell_8 : decode cX3_addCell 8 = .ok (.if_icmp .lt 5, 3) := by decide +kernel
theorem dX3_addCell_11 : decode cX3_addCell 11 = .ok (.iconst 0, 1) := by decide +kernel
theorem dX3_addCell_12 : decode cX3_addCell 12 = .ok (.ireturn, 1) := by decide +kernel
theorem dX3_addCell_13 : decode cX3_addCell 13 = .ok (.iload_n 1, 1) := by decide +kernel
theorem dX3_addCell_14 : decode cX3_addCell 14 = .ok (.invokestatic 62, 3) := by decide +kernel
theorem dX3_addCell_17 : decode cX3_addCell 17 = .ok (.istore_n 3, 1) := by decide +kernel
theorem dX3_addCell_18 : decode cX3_addCell 18 = .ok (.iload_n 3, 1) := by decide +kernel
theorem dX3_addCell_19 : decode cX3_addCell 19 = .ok (.ifCond .ge 18, 3) := by decide +kernel
theorem dX3_addCell_22 : decode cX3_addCell 22 = .ok (.iload_n 1, 1) := by decide +kernel
theorem dX3_addCell_23 : decode cX3_addCell 23 = .ok (.invokestatic 66, 3) := by decide +kernel
theorem dX3_addCell_26 : decode cX3_addCell 26 = .ok (.ifCond .lt 7, 3) := by decide +kernel
theorem dX3_addCell_29 : decode cX3_addCell 29 = .ok (.iconst 1, 1) := by decide +kernel
theorem dX3_addCell_30 : decode cX3_addCell 30 = .ok (.goto 17, 3) := by decide +kernel
theorem dX3_addCell_33 : decode cX3_addCell 33 = .ok (.iconst 0, 1) := by decide +kernel
theorem dX3_addCell_34 : decode cX3_addCell 34 = .ok (.goto 13, 3) := by decide +kernel
theorem dX3_addCell_37 : decode cX3_addCell 37 = .ok (.aload_n 0, 1) := by decide +kernel
theorem dX3_addCell_38 : decode cX3_addCell 38 = .ok (.iload_n 3, 1) := by decide +kernel
theorem dX3_addCell_39 : decode cX3_addCell 39 = .ok (.iload_n 1, 1) := by decide +kernel
theorem dX3_addCell_40 : decode cX3_addCell 40 = .ok (.invokestatic 69, 3) := by decide +kernel
theorem dX3_addCell_43 : decode cX3_addCell 43 = .ok (.iload_n 2, 1) := by decide +kernel
theorem dX3_addCell_44 : decode cX3_addCell 44 = .ok (.invokevirtual 73, 3) := by decide +kernel
theorem dX3_addCell_47 : decode cX3_addCell 47 = .ok (.istore 4, 2) := by decide +kernel
theorem dX3_addCell_49 : decode cX3_addCell 49 = .ok (.aload_n 0, 1) := by decide +kernel
theorem dX3_addCell_50 : decode cX3_addCell 50 = .ok (.dup, 1) := by decide +kernel
theorem dX3_addCell_51 : decode cX3_addCell 51 = .ok (.getfield 28, 3) := by decide +kernel
theorem dX3_addCell_54 : decode cX3_addCell 54 = .ok (.iconst 1, 1) := by decide +kernel
theorem dX3_addCell_55 : decode cX3_addCell 55 = .ok (.iadd, 1) := by decide +kernel
theorem dX3_addCell_56 : decode cX3_addCell 56 = .ok (.putfield 28, 3) := by decide +kernel
theorem dX3_addCell_59 : decode cX3_addCell 59 = .ok (.iload 4, 2) := by decide +kernel
theorem dX3_addCell_61 : decode cX3_addCell 61 = .ok (.ireturn, 1) := by decide +kernel
theorem dX3_addBlockCell_0 : decode cX3_addBlockCell 0 = .ok (.aload_n 0, 1) := by decide +kernel
theorem dX3_addBlockCell_1 : decode cX3_addBlockCell 1 = .ok (.getfield 9, 3) := by decide +kernel
theorem dX3_addBlockCell_4 : decode cX3_addBlockCell 4 = .ok (.iload_n 1, 1) := by decide +kernel
theorem dX3_addBlockCell_5 : decode cX3_addBlockCell 5 = .ok (.iaload, 1) := by decide +kernel
theorem dX3_addBlockCell_6 : decode cX3_addBlockCell 6 = .ok (.iconst 5, 1) := by decide +kernel
theorem dX3_addBlockCell_7 : decode cX3_addBlockCell 7 = .ok (.if_icmp .ge 17, 3) := by decide +kernel
theorem dX3_addBlockCell_10 : decode cX3_addBlockCell 10 = .ok (.iload_n 2, 1) := by decide +kernel
theorem dX3_addBlockCell_11 : decode cX3_addBlockCell 11 = .ok (.ifCond .eq 15, 3) := by decide +kernel
theorem dX3_addBlockCell_14 : decode cX3_addBlockCell 14 = .ok (.aload_n 0, 1) := by decide +kernel
theorem dX3_addBlockCell_15 : decode cX3_addBlockCell 15 = .ok (.getfield 18, 3) := by decide +kernel
theorem dX3_addBlockCell_18 : decode cX3_addBlockCell 18 = .ok (.iload_n 1, 1) := by decide +kernel
theorem dX3_addBlockCell_19 : decode cX3_addBlockCell 19 = .ok (.iaload, 1) := by decide +kernel
theorem dX3_addBlockCell_20 : decode cX3_addBlockCell 20 = .ok (.iconst (-1), 1) := by decide +kernel
theorem dX3_addBlockCell_21 : decode cX3_addBlockCell 21 = .ok (.if_icmp .eq 5, 3) := by decide +kernel
theorem dX3_addBlockCell_24 : decode cX3_addBlockCell 24 = .ok (.iconst 0, 1) := by decide +kernel
theorem dX3_addBlockCell_25 : decode cX3_addBlockCell 25 = .ok (.ireturn, 1) := by decide +kernel
theorem dX3_addBlockCell_26 : decode cX3_addBlockCell 26 = .ok (.aload_n 0, 1) := by decide +kernel
theorem dX3_addBlockCell_27 : decode cX3_addBlockCell 27 = .ok (.getfield 9, 3) := by decide +kernel
theorem dX3_addBlockCell_30 : decode cX3_addBlockCell 30 = .ok (.iload_n 1, 1) := by decide +kernel
theorem dX3_addBlockCell_31 : decode cX3_addBlockCell 31 = .ok (.iaload, 1) := by decide +kernel
theorem dX3_addBlockCell_32 : decode cX3_addBlockCell 32 = .ok (.ifCond .ne 10, 3) := by decide +kernel
theorem dX3_addBlockCell_35 : decode cX3_addBlockCell 35 = .ok (.aload_n 0, 1) := by decide +kernel
theorem dX3_addBlockCell_36 : decode cX3_addBlockCell 36 = .ok (.getfield 15, 3) := by decide +kernel
theorem dX3_addBlockCell_39 : decode cX3_addBlockCell 39 = .ok (.iload_n 1, 1) := by decide +kernel
theorem dX3_addBlockCell_40 : decode cX3_addBlockCell 40 = .ok (.iload_n 3, 1) := by decide +kernel
theorem dX3_addBlockCell_41 : decode cX3_addBlockCell 41 = .ok (.iastore, 1) := by decide +kernel
theorem dX3_addBlockCell_42 : decode cX3_addBlockCell 42 = .ok (.iload_n 2, 1) := by decide +kernel
theorem dX3_addBlockCell_43 : decode cX3_addBlockCell 43 = .ok (.ifCond .eq 21, 3) := by decide +kernel
theorem dX3_addBlockCell_46 : decode cX3_addBlockCell 46 = .ok (.aload_n 0, 1) := by decide +kernel
theorem dX3_addBlockCell_47 : decode cX3_addBlockCell 47 = .ok (.getfield 18, 3) := by decide +kernel
theorem dX3_addBlockCell_50 : decode cX3_addBlockCell 50 = .ok (.iload_n 1, 1) := by decide +kernel
theorem dX3_addBlockCell_51 : decode cX3_addBlockCell 51 = .ok (.bipush 8, 2) := by decide +kernel
theorem dX3_addBlockCell_53 : decode cX3_addBlockCell 53 = .ok (.aload_n 0, 1) := by decide +kernel
theorem dX3_addBlockCell_54 : decode cX3_addBlockCell 54 = .ok (.getfield 25, 3) := by decide +kernel
theorem dX3_addBlockCell_57 : decode cX3_addBlockCell 57 = .ok (.imul, 1) := by decide +kernel
theorem dX3_addBlockCell_58 : decode cX3_addBlockCell 58 = .ok (.aload_n 0, 1) := by decide +kernel
theorem dX3_addBlockCell_59 : decode cX3_addBlockCell 59 = .ok (.getfield 28, 3) := by decide +kernel
theorem dX3_addBlockCell_62 : decode cX3_addBlockCell 62 = .ok (.iadd, 1) := by decide +kernel
theorem dX3_addBlockCell_63 : decode cX3_addBlockCell 63 = .ok (.iastore, 1) := by decide +kernel
theorem dX3_addBlockCell_64 : decode cX3_addBlockCell 64 = .ok (.aload_n 0, 1) := by decide +kernel
theorem dX3_addBlockCell_65 : decode cX3_addBlockCell 65 = .ok (.getfield 9, 3) := by decide +kernel
theorem dX3_addBlockCell_68 : decode cX3_addBlockCell 68 = .ok (.iload_n 1, 1) := by decide +kernel
theorem dX3_addBlockCell_69 : decode cX3_addBlockCell 69 = .ok (.dup2, 1) := by decide +kernel
theorem dX3_addBlockCell_70 : decode cX3_addBlockCell 70 = .ok (.iaload, 1) := by decide +kernel
theorem dX3_addBlockCell_71 : decode cX3_addBlockCell 71 = .ok (.iconst 1, 1) := by decide +kernel
theorem dX3_addBlockCell_72 : decode cX3_addBlockCell 72 = .ok (.iadd, 1) := by decide +kernel
theorem dX3_addBlockCell_73 : decode cX3_addBlockCell 73 = .ok (.iastore, 1) := by decide +kernel
theorem dX3_addBlockCell_74 : decode cX3_addBlockCell 74 = .ok (.iconst 1, 1) := by decide +kernel
theorem dX3_addBlockCell_75 : decode cX3_addBlockCell 75 = .ok (.ireturn, 1) := by decide +kernel
theorem dX3_faultOfPivots_0 : decode cX3_faultOfPivots 0 = .ok (.iconst (-1), 1) := by decide +kernel
theorem dX3_faultOfPivots_1 : decode cX3_faultOfPivots 1 = .ok (.istore_n 1, 1) := by decide +kernel
theorem dX3_faultOfPivots_2 : decode cX3_faultOfPivots 2 = .ok (.iconst 0, 1) := by decide +kernel
theorem dX3_faultOfPivots_3 : decode cX3_faultOfPivots 3 = .ok (.istore_n 2, 1) := by decide +kernel
theorem dX3_faultOfPivots_4 : decode cX3_faultOfPivots 4 = .ok (.iload_n 2, 1) := by decide +kernel
theorem dX3_faultOfPivots_5 : decode cX3_faultOfPivots 5 = .ok (.iconst 5, 1) := by decide +kernel
theorem dX3_faultOfPivots_6 : decode cX3_faultOfPivots 6 = .ok (.if_icmp .ge 60, 3) := by decide +kernel
theorem dX3_faultOfPivots_9 : decode cX3_faultOfPivots 9 = .ok (.aload_n 0, 1) := by decide +kernel
theorem dX3_faultOfPivots_10 : decode cX3_faultOfPivots 10 = .ok (.getfield 9, 3) := by decide +kernel
theorem dX3_faultOfPivots_13 : decode cX3_faultOfPivots 13 = .ok (.iload_n 2, 1) := by decide +kernel
theorem dX3_faultOfPivots_14 : decode cX3_faultOfPivots 14 = .ok (.iaload, 1) := by decide +kernel
theorem dX3_faultOfPivots_15 : decode cX3_faultOfPivots 15 = .ok (.ifCond .le 17, 3) := by decide +kernel
theorem dX3_faultOfPivots_18 : decode cX3_faultOfPivots 18 = .ok (.aload_n 0, 1) := by decide +kernel
theorem dX3_faultOfPivots_19 : decode cX3_faultOfPivots 19 = .ok (.getfield 18, 3) := by decide +kernel
theorem dX3_faultOfPivots_22 : decode cX3_faultOfPivots 22 = .ok (.iload_n 2, 1) := by decide +kernel
theorem dX3_faultOfPivots_23 : decode cX3_faultOfPivots 23 = .ok (.iaload, 1) := by decide +kernel
theorem dX3_faultOfPivots_24 : decode cX3_faultOfPivots 24 = .ok (.iconst (-1), 1) := by decide +kernel
theorem dX3_faultOfPivots_25 : decode cX3_faultOfPivots 25 = .ok (.if_icmp .ne 7, 3) := by decide +kernel
theorem dX3_faultOfPivots_28 : decode cX3_faultOfPivots 28 = .ok (.iconst 1, 1) := by decide +kernel
theorem dX3_faultOfPivots_29 : decode cX3_faultOfPivots 29 = .ok (.goto 4, 3) := by decide +kernel
theorem dX3_faultOfPivots_32 : decode cX3_faultOfPivots 32 = .ok (.iconst 0, 1) := by decide +kernel
theorem dX3_faultOfPivots_33 : decode cX3_faultOfPivots 33 = .ok (.istore_n 3, 1) := by decide +kernel
theorem dX3_faultOfPivots_34 : decode cX3_faultOfPivots 34 = .ok (.iload_n 3, 1) := by decide +kernel
theorem dX3_faultOfPivots_35 : decode cX3_faultOfPivots 35 = .ok (.ifCond .eq 25, 3) := by decide +kernel
theorem dX3_faultOfPivots_38 : decode cX3_faultOfPivots 38 = .ok (.iload_n 1, 1) := by decide +kernel
theorem dX3_faultOfPivots_39 : decode cX3_faultOfPivots 39 = .ok (.iconst (-1), 1) := by decide +kernel
theorem dX3_faultOfPivots_40 : decode cX3_faultOfPivots 40 = .ok (.if_icmp .eq 13, 3) := by decide +kernel
theorem dX3_faultOfPivots_43 : decode cX3_faultOfPivots 43 = .ok (.aload_n 0, 1) := by decide +kernel
theorem dX3_faultOfPivots_44 : decode cX3_faultOfPivots 44 = .ok (.getfield 15, 3) := by decide +kernel
theorem dX3_faultOfPivots_47 : decode cX3_faultOfPivots 47 = .ok (.iload_n 2, 1) := by decide +kernel
theorem dX3_faultOfPivots_48 : decode cX3_faultOfPivots 48 = .ok (.iaload, 1) := by decide +kernel
theorem dX3_faultOfPivots_49 : decode cX3_faultOfPivots 49 = .ok (.iload_n 1, 1) := by decide +kernel
theorem dX3_faultOfPivots_50 : decode cX3_faultOfPivots 50 = .ok (.if_icmp .ge 10, 3) := by decide +kernel
theorem dX3_faultOfPivots_53 : decode cX3_faultOfPivots 53 = .ok (.aload_n 0, 1) := by decide +kernel
theorem dX3_faultOfPivots_54 : decode cX3_faultOfPivots 54 = .ok (.getfield 15, 3) := by decide +kernel
theorem dX3_faultOfPivots_57 : decode cX3_faultOfPivots 57 = .ok (.iload_n 2, 1) := by decide +kernel
theorem dX3_faultOfPivots_58 : decode cX3_faultOfPivots 58 = .ok (.iaload, 1) := by decide +kernel
theorem dX3_faultOfPivots_59 : decode cX3_faultOfPivots 59 = .ok (.istore_n 1, 1) := by decide +kernel
theorem dX3_faultOfPivots_60 : decode cX3_faultOfPivots 60 = .ok (.iinc 2 1, 3) := by decide +kernel
theorem dX3_faultOfPivots_63 : decode cX3_faultOfPivots 63 = .ok (.goto (-59), 3) := by decide +kernel
theorem dX3_faultOfPivots_66 : decode cX3_faultOfPivots 66 = .ok (.iload_n 1, 1) := by decide +kernel
theorem dX3_faultOfPivots_67 : decode cX3_faultOfPivots 67 = .ok (.ireturn, 1) := by decide +kernel
theorem dX3_build_0 : decode cX3_build 0 = .ok (.aload_n 1, 1) := by decide +kernel
theorem dX3_build_1 : decode cX3_build 1 = .ok (.aload_n 0, 1) := by decide +kernel
theorem dX3_build_2 : decode cX3_build 2 = .ok (.getfield 21, 3) := by decide +kernel
theorem dX3_build_5 : decode cX3_build 5 = .ok (.aload_n 0, 1) := by decide +kernel
theorem dX3_build_6 : decode cX3_build 6 = .ok (.getfield 25, 3) := by decide +kernel
theorem dX3_build_9 : decode cX3_build 9 = .ok (.iconst 1, 1) := by decide +kernel
theorem dX3_build_10 : decode cX3_build 10 = .ok (.iadd, 1) := by decide +kernel
theorem dX3_build_11 : decode cX3_build 11 = .ok (.invokevirtual 77, 3) := by decide +kernel
theorem dX3_build_14 : decode cX3_build 14 = .ok (.iconst 0, 1) := by decide +kernel
theorem dX3_build_15 : decode cX3_build 15 = .ok (.istore_n 2, 1) := by decide +kernel
theorem dX3_build_16 : decode cX3_build 16 = .ok (.iload_n 2, 1) := by decide +kernel
theorem dX3_build_17 : decode cX3_build 17 = .ok (.aload_n 0, 1) := by decide +kernel
theorem dX3_build_18 : decode cX3_build 18 = .ok (.getfield 25, 3) := by decide +kernel
theorem dX3_build_21 : decode cX3_build 21 = .ok (.if_icmp .gt 32, 3) := by decide +kernel
theorem dX3_build_24 : decode cX3_build 24 = .ok (.iconst 0, 1) := by decide +kernel
theorem dX3_build_25 : decode cX3_build 25 = .ok (.istore_n 3, 1) := by decide +kernel
theorem dX3_build_26 : decode cX3_build 26 = .ok (.iload_n 3, 1) := by decide +kernel
theorem dX3_build_27 : decode cX3_build 27 = .ok (.aload_n 0, 1) := by decide +kernel
theorem dX3_build_28 : decode cX3_build 28 = .ok (.getfield 21, 3) := by decide +kernel
theorem dX3_build_31 : decode cX3_build 31 = .ok (.if_icmp .ge 16, 3) := by decide +kernel
theorem dX3_build_34 : decode cX3_build 34 = .ok (.aload_n 0, 1) := by decide +kernel
theorem dX3_build_35 : decode cX3_build 35 = .ok (.aload_n 1, 1) := by decide +kernel
theorem dX3_build_36 : decode cX3_build 36 = .ok (.iload_n 3, 1) := by decide +kernel
theorem dX3_build_37 : decode cX3_build 37 = .ok (.iload_n 2, 1) := by decide +kernel
theorem dX3_build_38 : decode cX3_build 38 = .ok (.invokevirtual 83, 3) := by decide +kernel
theorem dX3_build_41 : decode cX3_build 41 = .ok (.iinc 3 1, 3) := by decide +kernel
theorem dX3_build_44 : decode cX3_build 44 = .ok (.goto (-18), 3) := by decide +kernel
theorem dX3_build_47 : decode cX3_build 47 = .ok (.iinc 2 1, 3) := by decide +kernel
theorem dX3_build_50 : decode cX3_build 50 = .ok (.goto (-34), 3) := by decide +kernel
theorem dX3_build_53 : decode cX3_build 53 = .ok (.lconst 0, 1) := by decide +kernel
theorem dX3_build_54 : decode cX3_build 54 = .ok (.lstore_n 2, 1) := by decide +kernel
theorem dX3_build_55 : decode cX3_build 55 = .ok (.iconst 0, 1) := by decide +kernel
theorem dX3_build_56 : decode cX3_build 56 = .ok (.istore 4, 2) := by decide +kernel
theorem dX3_build_58 : decode cX3_build 58 = .ok (.iload 4, 2) := by decide +kernel
theorem dX3_build_60 : decode cX3_build 60 = .ok (.iconst 5, 1) := by decide +kernel
theorem dX3_build_61 : decode cX3_build 61 = .ok (.if_icmp .ge 48, 3) := by decide +kernel
theorem dX3_build_64 : decode cX3_build 64 = .ok (.aload_n 0, 1) := by decide +kernel
theorem dX3_build_65 : decode cX3_build 65 = .ok (.getfield 18, 3) := by decide +kernel
theorem dX3_build_68 : decode cX3_build 68 = .ok (.iload 4, 2) := by decide +kernel
theorem dX3_build_70 : decode cX3_build 70 = .ok (.iaload, 1) := by decide +kernel
theorem dX3_build_71 : decode cX3_build 71 = .ok (.iconst (-1), 1) := by decide +kernel
theorem dX3_build_72 : decode cX3_build 72 = .ok (.if_icmp .eq 31, 3) := by decide +kernel
theorem dX3_build_75 : decode cX3_build 75 = .ok (.aload_n 1, 1) := by decide +kernel
theorem dX3_build_76 : decode cX3_build 76 = .ok (.getfield 87, 3) := by decide +kernel
theorem dX3_build_79 : decode cX3_build 79 = .ok (.iload 4, 2) := by decide +kernel
theorem dX3_build_81 : decode cX3_build 81 = .ok (.aaload, 1) := by decide +kernel
theorem dX3_build_82 : decode cX3_build 82 = .ok (.aload_n 1, 1) := by decide +kernel
theorem dX3_build_83 : decode cX3_build 83 = .ok (.getfield 91, 3) := by decide +kernel
theorem dX3_build_86 : decode cX3_build 86 = .ok (.invokevirtual 95, 3) := by decide +kernel
theorem dX3_build_89 : decode cX3_build 89 = .ok (.lload_n 2, 1) := by decide +kernel
theorem dX3_build_90 : decode cX3_build 90 = .ok (.iload 4, 2) := by decide +kernel
theorem dX3_build_92 : decode cX3_build 92 = .ok (.aload_n 0, 1) := by decide +kernel
theorem dX3_build_93 : decode cX3_build 93 = .ok (.getfield 18, 3) := by decide +kernel
theorem dX3_build_96 : decode cX3_build 96 = .ok (.iload 4, 2) := by decide +kernel
theorem dX3_build_98 : decode cX3_build 98 = .ok (.iaload, 1) := by decide +kernel
theorem dX3_build_99 : decode cX3_build 99 = .ok (.invokestatic 101, 3) := by decide +kernel
theorem dX3_build_102 : decode cX3_build 102 = .ok (.lstore_n 2, 1) := by decide +kernel
theorem dX3_build_103 : decode cX3_build 103 = .ok (.iinc 4 1, 3) := by decide +kernel
theorem dX3_build_106 : decode cX3_build 106 = .ok (.goto (-48), 3) := by decide +kernel
theorem dX3_build_109 : decode cX3_build 109 = .ok (.lload_n 2, 1) := by decide +kernel
theorem dX3_build_110 : decode cX3_build 110 = .ok (.lreturn, 1) := by decide +kernel
theorem dX3_buildCell_0 : decode cX3_buildCell 0 = .ok (.aload_n 0, 1) := by decide +kernel
theorem dX3_buildCell_1 : decode cX3_buildCell 1 = .ok (.getfield 31, 3) := by decide +kernel
theorem dX3_buildCell_4 : decode cX3_buildCell 4 = .ok (.aload_n 0, 1) := by decide +kernel
theorem dX3_buildCell_5 : decode cX3_buildCell 5 = .ok (.getfield 21, 3) := by decide +kernel
theorem dX3_buildCell_8 : decode cX3_buildCell 8 = .ok (.iconst 1, 1) := by decide +kernel
theorem dX3_buildCell_9 : decode cX3_buildCell 9 = .ok (.iadd, 1) := by decide +kernel
theorem dX3_buildCell_10 : decode cX3_buildCell 10 = .ok (.iload_n 3, 1) := by decide +kernel
theorem dX3_buildCell_11 : decode cX3_buildCell 11 = .ok (.imul, 1) := by decide +kernel
theorem dX3_buildCell_12 : decode cX3_buildCell 12 = .ok (.iload_n 2, 1) := by decide +kernel
theorem dX3_buildCell_13 : decode cX3_buildCell 13 = .ok (.iadd, 1) := by decide +kernel
theorem dX3_buildCell_14 : decode cX3_buildCell 14 = .ok (.invokevirtual 46, 3) := by decide +kernel
theorem dX3_buildCell_17 : decode cX3_buildCell 17 = .ok (.istore 4, 2) := by decide +kernel
theorem dX3_buildCell_19 : decode cX3_buildCell 19 = .ok (.iload 4, 2) := by decide +kernel
theorem dX3_buildCell_21 : decode cX3_buildCell 21 = .ok (.invokestatic 62, 3) := by decide +kernel
theorem dX3_buildCell_24 : decode cX3_buildCell 24 = .ok (.istore 5, 2) := by decide +kernel
theorem dX3_buildCell_26 : decode cX3_buildCell 26 = .ok (.iload 5, 2) := by decide +kernel
theorem dX3_buildCell_28 : decode cX3_buildCell 28 = .ok (.ifCond .ge 24, 3) := by decide +kernel
theorem dX3_buildCell_31 : decode cX3_buildCell 31 = .ok (.aload_n 1, 1) := by decide +kernel
theorem dX3_buildCell_32 : decode cX3_buildCell 32 = .ok (.getfield 91, 3) := by decide +kernel
theorem dX3_buildCell_35 : decode cX3_buildCell 35 = .ok (.bipush 8, 2) := by decide +kernel
theorem dX3_buildCell_37 : decode cX3_buildCell 37 = .ok (.iload_n 3, 1) := by decide +kernel
theorem dX3_buildCell_38 : decode cX3_buildCell 38 = .ok (.imul, 1) := by decide +kernel
theorem dX3_buildCell_39 : decode cX3_buildCell 39 = .ok (.iload_n 2, 1) := by decide +kernel
theorem dX3_buildCell_40 : decode cX3_buildCell 40 = .ok (.iadd, 1) := by decide +kernel
theorem dX3_buildCell_41 : decode cX3_buildCell 41 = .ok (.iload 4, 2) := by decide +kernel
theorem dX3_buildCell_43 : decode cX3_buildCell 43 = .ok (.invokestatic 66, 3) := by decide +kernel
theorem dX3_buildCell_46 : decode cX3_buildCell 46 = .ok (.invokevirtual 105, 3) := by decide +kernel
theorem dX3_buildCell_49 : decode cX3_buildCell 49 = .ok (.goto 37, 3) := by decide +kernel
theorem dX3_buildCell_52 : decode cX3_buildCell 52 = .ok (.aload_n 1, 1) := by decide +kernel
theorem dX3_buildCell_53 : decode cX3_buildCell 53 = .ok (.getfield 87, 3) := by decide +kernel
theorem dX3_buildCell_56 : decode cX3_buildCell 56 = .ok (.iload 5, 2) := by decide +kernel
theorem dX3_buildCell_58 : decode cX3_buildCell 58 = .ok (.aaload, 1) := by decide +kernel
theorem dX3_buildCell_59 : decode cX3_buildCell 59 = .ok (.iload_n 2, 1) := by decide +kernel
theorem dX3_buildCell_60 : decode cX3_buildCell 60 = .ok (.aload_n 0, 1) := by decide +kernel
theorem dX3_buildCell_61 : decode cX3_buildCell 61 = .ok (.getfield 18, 3) := by decide +kernel
theorem dX3_buildCell_64 : decode cX3_buildCell 64 = .ok (.iload 5, 2) := by decide +kernel
theorem dX3_buildCell_66 : decode cX3_buildCell 66 = .ok (.iaload, 1) := by decide +kernel
theorem dX3_buildCell_67 : decode cX3_buildCell 67 = .ok (.invokestatic 110, 3) := by decide +kernel
theorem dX3_buildCell_70 : decode cX3_buildCell 70 = .ok (.isub, 1) := by decide +kernel
theorem dX3_buildCell_71 : decode cX3_buildCell 71 = .ok (.iload_n 3, 1) := by decide +kernel
theorem dX3_buildCell_72 : decode cX3_buildCell 72 = .ok (.aload_n 0, 1) := by decide +kernel
theorem dX3_buildCell_73 : decode cX3_buildCell 73 = .ok (.getfield 18, 3) := by decide +kernel
theorem dX3_buildCell_76 : decode cX3_buildCell 76 = .ok (.iload 5, 2) := by decide +kernel
theorem dX3_buildCell_78 : decode cX3_buildCell 78 = .ok (.iaload, 1) := by decide +kernel
theorem dX3_buildCell_79 : decode cX3_buildCell 79 = .ok (.invokestatic 114, 3) := by decide +kernel
theorem dX3_buildCell_82 : decode cX3_buildCell 82 = .ok (.isub, 1) := by decide +kernel
theorem dX3_buildCell_83 : decode cX3_buildCell 83 = .ok (.invokevirtual 117, 3) := by decide +kernel
theorem dX3_buildCell_86 : decode cX3_buildCell 86 = .ok (.return_, 1) := by decide +kernel
theorem dX3_groundOf_0 : decode cX3_groundOf 0 = .ok (.iload_n 0, 1) := by decide +kernel
theorem dX3_groundOf_1 : decode cX3_groundOf 1 = .ok (.getstatic 119, 3) := by decide +kernel
theorem dX3_groundOf_4 : decode cX3_groundOf 4 = .ok (.invokestatic 123, 3) := by decide +kernel
theorem dX3_groundOf_7 : decode cX3_groundOf 7 = .ok (.ireturn, 1) := by decide +kernel
theorem dX3_isPivot_0 : decode cX3_isPivot 0 = .ok (.iload_n 0, 1) := by decide +kernel
theorem dX3_isPivot_1 : decode cX3_isPivot 1 = .ok (.bipush 65, 2) := by decide +kernel
theorem dX3_isPivot_3 : decode cX3_isPivot 3 = .ok (.if_icmp .lt 13, 3) := by decide +kernel
theorem dX3_isPivot_6 : decode cX3_isPivot 6 = .ok (.iload_n 0, 1) := by decide +kernel
theorem dX3_isPivot_7 : decode cX3_isPivot 7 = .ok (.bipush 70, 2) := by decide +kernel
theorem dX3_isPivot_9 : decode cX3_isPivot 9 = .ok (.if_icmp .ge 7, 3) := by decide +kernel
theorem dX3_isPivot_12 : decode cX3_isPivot 12 = .ok (.iconst 1, 1) := by decide +kernel
theorem dX3_isPivot_13 : decode cX3_isPivot 13 = .ok (.goto 4, 3) := by decide +kernel
theorem dX3_isPivot_16 : decode cX3_isPivot 16 = .ok (.iconst 0, 1) := by decide +kernel
theorem dX3_isPivot_17 : decode cX3_isPivot 17 = .ok (.ireturn, 1) := by decide +kernel
theorem dX3_blockOf_0 : decode cX3_blockOf 0 = .ok (.iload_n 0, 1) := by decide +kernel
theorem dX3_blockOf_1 : decode cX3_blockOf 1 = .ok (.invokestatic 69, 3) := by decide +kernel
theorem dX3_blockOf_4 : decode cX3_blockOf 4 = .ok (.ifCond .eq 8, 3) := by decide +kernel
theorem dX3_blockOf_7 : decode cX3_blockOf 7 = .ok (.iload_n 0, 1) := by decide +kernel
theorem dX3_blockOf_8 : decode cX3_blockOf 8 = .ok (.bipush 65, 2) := by decide +kernel
theorem dX3_blockOf_10 : decode cX3_blockOf 10 = .ok (.isub, 1) := by decide +kernel
theorem dX3_blockOf_11 : decode cX3_blockOf 11 = .ok (.ireturn, 1) := by decide +kernel
theorem dX3_blockOf_12 : decode cX3_blockOf 12 = .ok (.iload_n 0, 1) := by decide +kernel
theorem dX3_blockOf_13 : decode cX3_blockOf 13 = .ok (.bipush 97, 2) := by decide +kernel
theorem dX3_blockOf_15 : decode cX3_blockOf 15 = .ok (.if_icmp .lt 16, 3) := by decide +kernel
theorem dX3_blockOf_18 : decode cX3_blockOf 18 = .ok (.iload_n 0, 1) := by decide +kernel
theorem dX3_blockOf_19 : decode cX3_blockOf 19 = .ok (.bipush 102, 2) := by decide +kernel
theorem dX3_blockOf_21 : decode cX3_blockOf 21 = .ok (.if_icmp .ge 10, 3) := by decide +kernel
theorem dX3_blockOf_24 : decode cX3_blockOf 24 = .ok (.iload_n 0, 1) := by decide +kernel
theorem dX3_blockOf_25 : decode cX3_blockOf 25 = .ok (.bipush 97, 2) := by decide +kernel
theorem dX3_blockOf_27 : decode cX3_blockOf 27 = .ok (.isub, 1) := by decide +kernel
theorem dX3_blockOf_28 : decode cX3_blockOf 28 = .ok (.goto 4, 3) := by decide +kernel
theorem dX3_blockOf_31 : decode cX3_blockOf 31 = .ok (.iconst (-1), 1) := by decide +kernel
theorem dX3_blockOf_32 : decode cX3_blockOf 32 = .ok (.ireturn, 1) := by decide +kernel
theorem dX4_init_0 : decode cX4_init 0 = .ok (.aload_n 0, 1) := by decide +kernel
theorem dX4_init_1 : decode cX4_init 1 = .ok (.invokespecial 3, 3) := by decide +kernel
theorem dX4_init_4 : decode cX4_init 4 = .ok (.aload_n 0, 1) := by decide +kernel
theorem dX4_init_5 : decode cX4_init 5 = .ok (.iconst 5, 1) := by decide +kernel
theorem dX4_init_6 : decode cX4_init 6 = .ok (.newarray .int, 2) := by decide +kernel
theorem dX4_init_8 : decode cX4_init 8 = .ok (.putfield 9, 3) := by decide +kernel
theorem dX4_init_11 : decode cX4_init 11 = .ok (.aload_n 0, 1) := by decide +kernel
theorem dX4_init_12 : decode cX4_init 12 = .ok (.iconst 5, 1) := by decide +kernel
theorem dX4_init_13 : decode cX4_init 13 = .ok (.newarray .int, 2) := by decide +kernel
theorem dX4_init_15 : decode cX4_init 15 = .ok (.putfield 15, 3) := by decide +kernel
theorem dX4_init_18 : decode cX4_init 18 = .ok (.aload_n 0, 1) := by decide +kernel
theorem dX4_init_19 : decode cX4_init 19 = .ok (.iconst 5, 1) := by decide +kernel
theorem dX4_init_20 : decode cX4_init 20 = .ok (.newarray .long, 2) := by decide +kernel
theorem dX4_init_22 : decode cX4_init 22 = .ok (.putfield 18, 3) := by decide +kernel
theorem dX4_init_25 : decode cX4_init 25 = .ok (.aload_n 0, 1) := by decide +kernel
theorem dX4_init_26 : decode cX4_init 26 = .ok (.lconst 0, 1) := by decide +kernel
theorem dX4_init_27 : decode cX4_init 27 = .ok (.putfield 22, 3) := by decide +kernel
theorem dX4_init_30 : decode cX4_init 30 = .ok (.aload_n 0, 1) := by decide +kernel
theorem dX4_init_31 : decode cX4_init 31 = .ok (.lconst 0, 1) := by decide +kernel
theorem dX4_init_32 : decode cX4_init 32 = .ok (.putfield 26, 3) := by decide +kernel
theorem dX4_init_35 : decode cX4_init 35 = .ok (.aload_n 0, 1) := by decide +kernel
theorem dX4_init_36 : decode cX4_init 36 = .ok (.lconst 0, 1) := by decide +kernel
theorem dX4_init_37 : decode cX4_init 37 = .ok (.putfield 29, 3) := by decide +kernel
theorem dX4_init_40 : decode cX4_init 40 = .ok (.aload_n 0, 1) := by decide +kernel
theorem dX4_init_41 : decode cX4_init 41 = .ok (.lconst 0, 1) := by decide +kernel
theorem dX4_init_42 : decode cX4_init 42 = .ok (.putfield 32, 3) := by decide +kernel
theorem dX4_init_45 : decode cX4_init 45 = .ok (.aload_n 0, 1) := by decide +kernel
theorem dX4_init_46 : decode cX4_init 46 = .ok (.aload_n 1, 1) := by decide +kernel
theorem dX4_init_47 : decode cX4_init 47 = .ok (.putfield 35, 3) := by decide +kernel
theorem dX4_init_50 : decode cX4_init 50 = .ok (.return_, 1) := by decide +kernel
theorem dX4_stand_0 : decode cX4_stand 0 = .ok (.aload_n 0, 1) := by decide +kernel
theorem dX4_stand_1 : decode cX4_stand 1 = .ok (.lload_n 1, 1) := by decide +kernel
theorem dX4_stand_2 : decode cX4_stand 2 = .ok (.putfield 22, 3) := by decide +kernel
theorem dX4_stand_5 : decode cX4_stand 5 = .ok (.aload_n 0, 1) := by decide +kernel
theorem dX4_stand_6 : decode cX4_stand 6 = .ok (.lconst 0, 1) := by decide +kernel
theorem dX4_stand_7 : decode cX4_stand 7 = .ok (.putfield 26, 3) := by decide +kernel
theorem dX4_stand_10 : decode cX4_stand 10 = .ok (.iconst 0, 1) := by decide +kernel
theorem dX4_stand_11 : decode cX4_stand 11 = .ok (.istore_n 3, 1) := by decide +kernel
theorem dX4_stand_12 : decode cX4_stand 12 = .ok (.iload_n 3, 1) := by decide +kernel
theorem dX4_stand_13 : decode cX4_stand 13 = .ok (.iconst 5, 1) := by decide +kernel
theorem dX4_stand_14 : decode cX4_stand 14 = .ok (.if_icmp .ge 78, 3) := by decide +kernel
theorem dX4_stand_17 : decode cX4_stand 17 = .ok (.aload_n 0, 1) := by decide +kernel
theorem dX4_stand_18 : decode cX4_stand 18 = .ok (.getfield 9, 3) := by decide +kernel
theorem dX4_stand_21 : decode cX4_stand 21 = .ok (.iload_n 3, 1) := by decide +kernel
theorem dX4_stand_22 : decode cX4_stand 22 = .ok (.aload_n 0, 1) := by decide +kernel
theorem dX4_stand_23 : decode cX4_stand 23 = .ok (.getfield 22, 3) := by decide +kernel
theorem dX4_stand_26 : decode cX4_stand 26 = .ok (.iload_n 3, 1) := by decide +kernel
theorem dX4_stand_27 : decode cX4_stand 27 = .ok (.invokestatic 39, 3) := by decide +kernel
theorem dX4_stand_30 : decode cX4_stand 30 = .ok (.iastore, 1) := by decide +kernel
theorem dX4_stand_31 : decode cX4_stand 31 = .ok (.aload_n 0, 1) := by decide +kernel
theorem dX4_stand_32 : decode cX4_stand 32 = .ok (.getfield 18, 3) := by decide +kernel
theorem dX4_stand_35 : decode cX4_stand 35 = .ok (.iload_n 3, 1) := by decide +kernel
theorem dX4_stand_36 : decode cX4_stand 36 = .ok (.aload_n 0, 1) := by decide +kernel
theorem dX4_stand_37 : decode cX4_stand 37 = .ok (.getfield 35, 3) := by decide +kernel
theorem dX4_stand_40 : decode cX4_stand 40 = .ok (.iload_n 3, 1) := by decide +kernel
theorem dX4_stand_41 : decode cX4_stand 41 = .ok (.invokevirtual 43, 3) := by decide +kernel
theorem dX4_stand_44 : decode cX4_stand 44 = .ok (.ifCond .eq 25, 3) := by decide +kernel
theorem dX4_stand_47 : decode cX4_stand 47 = .ok (.aload_n 0, 1) := by decide +kernel
theorem dX4_stand_48 : decode cX4_stand 48 = .ok (.getfield 35, 3) := by decide +kernel
theorem dX4_stand_51 : decode cX4_stand 51 = .ok (.getfield 49, 3) := by decide +kernel
theorem dX4_stand_54 : decode cX4_stand 54 = .ok (.iload_n 3, 1) := by decide +kernel
theorem dX4_stand_55 : decode cX4_stand 55 = .ok (.aaload, 1) := by decide +kernel
theorem dX4_stand_56 : decode cX4_stand 56 = .ok (.getfield 53, 3) := by decide +kernel
theorem dX4_stand_59 : decode cX4_stand 59 = .ok (.aload_n 0, 1) := by decide +kernel
theorem dX4_stand_60 : decode cX4_stand 60 = .ok (.getfield 9, 3) := by decide +kernel
theorem dX4_stand_63 : decode cX4_stand 63 = .ok (.iload_n 3, 1) := by decide +kernel
theorem dX4_stand_64 : decode cX4_stand 64 = .ok (.iaload, 1) := by decide +kernel
theorem dX4_stand_65 : decode cX4_stand 65 = .ok (.laload, 1) := by decide +kernel
theorem dX4_stand_66 : decode cX4_stand 66 = .ok (.goto 4, 3) := by decide +kernel
theorem dX4_stand_69 : decode cX4_stand 69 = .ok (.lconst 0, 1) := by decide +kernel
theorem dX4_stand_70 : decode cX4_stand 70 = .ok (.lastore, 1) := by decide +kernel
theorem dX4_stand_71 : decode cX4_stand 71 = .ok (.aload_n 0, 1) := by decide +kernel
theorem dX4_stand_72 : decode cX4_stand 72 = .ok (.dup, 1) := by decide +kernel
theorem dX4_stand_73 : decode cX4_stand 73 = .ok (.getfield 26, 3) := by decide +kernel
theorem dX4_stand_76 : decode cX4_stand 76 = .ok (.aload_n 0, 1) := by decide +kernel
theorem dX4_stand_77 : decode cX4_stand 77 = .ok (.getfield 18, 3) := by decide +kernel
theorem dX4_stand_80 : decode cX4_stand 80 = .ok (.iload_n 3, 1) := by decide +kernel
theorem dX4_stand_81 : decode cX4_stand 81 = .ok (.laload, 1) := by decide +kernel
theorem dX4_stand_82 : decode cX4_stand 82 = .ok (.lor, 1) := by decide +kernel
theorem dX4_stand_83 : decode cX4_stand 83 = .ok (.putfield 26, 3) := by decide +kernel
theorem dX4_stand_86 : decode cX4_stand 86 = .ok (.iinc 3 1, 3) := by decide +kernel
theorem dX4_stand_89 : decode cX4_stand 89 = .ok (.goto (-77), 3) := by decide +kernel
theorem dX4_stand_92 : decode cX4_stand 92 = .ok (.aload_n 0, 1) := by decide +kernel
theorem dX4_stand_93 : decode cX4_stand 93 = .ok (.lconst 0, 1) := by decide +kernel
theorem dX4_stand_94 : decode cX4_stand 94 = .ok (.putfield 29, 3) := by decide +kernel
theorem dX4_stand_97 : decode cX4_stand 97 = .ok (.iconst 0, 1) := by decide +kernel
theorem dX4_stand_98 : decode cX4_stand 98 = .ok (.istore_n 3, 1) := by decide +kernel
theorem dX4_stand_99 : decode cX4_stand 99 = .ok (.iload_n 3, 1) := by decide +kernel
theorem dX4_stand_100 : decode cX4_stand 100 = .ok (.iconst 4, 1) := by decide +kernel
theorem dX4_stand_101 : decode cX4_stand 101 = .ok (.if_icmp .ge 64, 3) := by decide +kernel
theorem dX4_stand_104 : decode cX4_stand 104 = .ok (.aload_n 0, 1) := by decide +kernel
theorem dX4_stand_105 : decode cX4_stand 105 = .ok (.getfield 35, 3) := by decide +kernel
theorem dX4_stand_108 : decode cX4_stand 108 = .ok (.getfield 58, 3) := by decide +kernel
theorem dX4_stand_111 : decode cX4_stand 111 = .ok (.getfield 62, 3) := by decide +kernel
theorem dX4_stand_114 : decode cX4_stand 114 = .ok (.iload_n 3, 1) := by decide +kernel
theorem dX4_stand_115 : decode cX4_stand 115 = .ok (.laload, 1) := by decide +kernel
theorem dX4_stand_116 : decode cX4_stand 116 = .ok (.lconst 0, 1) := by decide +kernel
theorem dX4_stand_117 : decode cX4_stand 117 = .ok (.lcmp, 1) := by decide +kernel
theorem dX4_stand_118 : decode cX4_stand 118 = .ok (.ifCond .eq 41, 3) := by decide +kernel
theorem dX4_stand_121 : decode cX4_stand 121 = .ok (.aload_n 0, 1) := by decide +kernel
theorem dX4_stand_122 : decode cX4_stand 122 = .ok (.iload_n 3, 1) := by decide +kernel
theorem dX4_stand_123 : decode cX4_stand 123 = .ok (.invokevirtual 67, 3) := by decide +kernel
theorem dX4_stand_126 : decode cX4_stand 126 = .ok (.aload_n 0, 1) := by decide +kernel
theorem dX4_stand_127 : decode cX4_stand 127 = .ok (.getfield 35, 3) := by decide +kernel
theorem dX4_stand_130 : decode cX4_stand 130 = .ok (.getfield 71, 3) := by decide +kernel
theorem dX4_stand_133 : decode cX4_stand 133 = .ok (.iload_n 3, 1) := by decide +kernel
theorem dX4_stand_134 : decode cX4_stand 134 = .ok (.iaload, 1) := by decide +kernel
theorem dX4_stand_135 : decode cX4_stand 135 = .ok (.if_icmp .ge 24, 3) := by decide +kernel
theorem dX4_stand_138 : decode cX4_stand 138 = .ok (.aload_n 0, 1) := by decide +kernel
theorem dX4_stand_139 : decode cX4_stand 139 = .ok (.dup, 1) := by decide +kernel
theorem dX4_stand_140 : decode cX4_stand 140 = .ok (.getfield 29, 3) := by decide +kernel
theorem dX4_stand_143 : decode cX4_stand 143 = .ok (.aload_n 0, 1) := by decide +kernel
theorem dX4_stand_144 : decode cX4_stand 144 = .ok (.getfield 35, 3) := by decide +kernel
theorem dX4_stand_147 : decode cX4_stand 147 = .ok (.getfield 58, 3) := by decide +kernel
theorem dX4_stand_150 : decode cX4_stand 150 = .ok (.getfield 62, 3) := by decide +kernel
theorem dX4_stand_153 : decode cX4_stand 153 = .ok (.iload_n 3, 1) := by decide +kernel
theorem dX4_stand_154 : decode cX4_stand 154 = .ok (.laload, 1) := by decide +kernel
theorem dX4_stand_155 : decode cX4_stand 155 = .ok (.lor, 1) := by decide +kernel
theorem dX4_stand_156 : decode cX4_stand 156 = .ok (.putfield 29, 3) := by decide +kernel
theorem dX4_stand_159 : decode cX4_stand 159 = .ok (.iinc 3 1, 3) := by decide +kernel
theorem dX4_stand_162 : decode cX4_stand 162 = .ok (.goto (-63), 3) := by decide +kernel
theorem dX4_stand_165 : decode cX4_stand 165 = .ok (.return_, 1) := by decide +kernel
theorem dX4_loadOf_0 : decode cX4_loadOf 0 = .ok (.iconst 0, 1) := by decide +kernel
theorem dX4_loadOf_1 : decode cX4_loadOf 1 = .ok (.istore_n 2, 1) := by decide +kernel
theorem dX4_loadOf_2 : decode cX4_loadOf 2 = .ok (.iconst 0, 1) := by decide +kernel
theorem dX4_loadOf_3 : decode cX4_loadOf 3 = .ok (.istore_n 3, 1) := by decide +kernel
theorem dX4_loadOf_4 : decode cX4_loadOf 4 = .ok (.iload_n 3, 1) := by decide +kernel
theorem dX4_loadOf_5 : decode cX4_loadOf 5 = .ok (.iconst 5, 1) := by decide +kernel
theorem dX4_loadOf_6 : decode cX4_loadOf 6 = .ok (.if_icmp .ge 48, 3) := by decide +kernel
theorem dX4_loadOf_9 : decode cX4_loadOf 9 = .ok (.aload_n 0, 1) := by decide +kernel
theorem dX4_loadOf_10 : decode cX4_loadOf 10 = .ok (.getfield 18, 3) := by decide +kernel
theorem dX4_loadOf_13 : decode cX4_loadOf 13 = .ok (.iload_n 3, 1) := by decide +kernel
theorem dX4_loadOf_14 : decode cX4_loadOf 14 = .ok (.laload, 1) := by decide +kernel
theorem dX4_loadOf_15 : decode cX4_loadOf 15 = .ok (.aload_n 0, 1) := by decide +kernel
theorem dX4_loadOf_16 : decode cX4_loadOf 16 = .ok (.getfield 35, 3) := by decide +kernel
theorem dX4_loadOf_19 : decode cX4_loadOf 19 = .ok (.getfield 58, 3) := by decide +kernel
theorem dX4_loadOf_22 : decode cX4_loadOf 22 = .ok (.getfield 74, 3) := by decide +kernel
theorem dX4_loadOf_25 : decode cX4_loadOf 25 = .ok (.iload_n 1, 1) := by decide +kernel
theorem dX4_loadOf_26 : decode cX4_loadOf 26 = .ok (.laload, 1) := by decide +kernel
theorem dX4_loadOf_27 : decode cX4_loadOf 27 = .ok (.land, 1) := by decide +kernel
theorem dX4_loadOf_28 : decode cX4_loadOf 28 = .ok (.lconst 0, 1) := by decide +kernel
theorem dX4_loadOf_29 : decode cX4_loadOf 29 = .ok (.lcmp, 1) := by decide +kernel
theorem dX4_loadOf_30 : decode cX4_loadOf 30 = .ok (.ifCond .eq 18, 3) := by decide +kernel
theorem dX4_loadOf_33 : decode cX4_loadOf 33 = .ok (.iload_n 2, 1) := by decide +kernel
theorem dX4_loadOf_34 : decode cX4_loadOf 34 = .ok (.aload_n 0, 1) := by decide +kernel
theorem dX4_loadOf_35 : decode cX4_loadOf 35 = .ok (.getfield 35, 3) := by decide +kernel
theorem dX4_loadOf_38 : decode cX4_loadOf 38 = .ok (.getfield 49, 3) := by decide +kernel
theorem dX4_loadOf_41 : decode cX4_loadOf 41 = .ok (.iload_n 3, 1) := by decide +kernel
theorem dX4_loadOf_42 : decode cX4_loadOf 42 = .ok (.aaload, 1) := by decide +kernel
theorem dX4_loadOf_43 : decode cX4_loadOf 43 = .ok (.getfield 77, 3) := by decide +kernel
theorem dX4_loadOf_46 : decode cX4_loadOf 46 = .ok (.iadd, 1) := by decide +kernel
theorem dX4_loadOf_47 : decode cX4_loadOf 47 = .ok (.istore_n 2, 1) := by decide +kernel
theorem dX4_loadOf_48 : decode cX4_loadOf 48 = .ok (.iinc 3 1, 3) := by decide +kernel
theorem dX4_loadOf_51 : decode cX4_loadOf 51 = .ok (.goto (-47), 3) := by decide +kernel
theorem dX4_loadOf_54 : decode cX4_loadOf 54 = .ok (.iload_n 2, 1) := by decide +kernel
theorem dX4_loadOf_55 : decode cX4_loadOf 55 = .ok (.ireturn, 1) := by decide +kernel
theorem dX4_attempt_0 : decode cX4_attempt 0 = .ok (.aload_n 0, 1) := by decide +kernel
theorem dX4_attempt_1 : decode cX4_attempt 1 = .ok (.getfield 35, 3) := by decide +kernel
theorem dX4_attempt_4 : decode cX4_attempt 4 = .ok (.iload_n 1, 1) := by decide +kernel
theorem dX4_attempt_5 : decode cX4_attempt 5 = .ok (.invokevirtual 43, 3) := by decide +kernel
theorem dX4_attempt_8 : decode cX4_attempt 8 = .ok (.ifCond .ne 5, 3) := by decide +kernel
theorem dX4_attempt_11 : decode cX4_attempt 11 = .ok (.iconst 0, 1) := by decide +kernel
theorem dX4_attempt_12 : decode cX4_attempt 12 = .ok (.ireturn, 1) := by decide +kernel
theorem dX4_attempt_13 : decode cX4_attempt 13 = .ok (.iload_n 2, 1) := by decide +kernel
theorem dX4_attempt_14 : decode cX4_attempt 14 = .ok (.iconst 4, 1) := by decide +kernel
theorem dX4_attempt_15 : decode cX4_attempt 15 = .ok (.if_icmp .ge 10, 3) := by decide +kernel
theorem dX4_attempt_18 : decode cX4_attempt 18 = .ok (.aload_n 0, 1) := by decide +kernel
theorem dX4_attempt_19 : decode cX4_attempt 19 = .ok (.iload_n 1, 1) := by decide +kernel
theorem dX4_attempt_20 : decode cX4_attempt 20 = .ok (.iload_n 2, 1) := by decide +kernel
theorem dX4_attempt_21 : decode cX4_attempt 21 = .ok (.invokevirtual 81, 3) := by decide +kernel
theorem dX4_attempt_24 : decode cX4_attempt 24 = .ok (.ireturn, 1) := by decide +kernel
theorem dX4_attempt_25 : decode cX4_attempt 25 = .ok (.aload_n 0, 1) := by decide +kernel
theorem dX4_attempt_26 : decode cX4_attempt 26 = .ok (.getfield 29, 3) := by decide +kernel
theorem dX4_attempt_29 : decode cX4_attempt 29 = .ok (.aload_n 0, 1) := by decide +kernel
theorem dX4_attempt_30 : decode cX4_attempt 30 = .ok (.getfield 26, 3) := by decide +kernel
theorem dX4_attempt_33 : decode cX4_attempt 33 = .ok (.lor, 1) := by decide +kernel
theorem dX4_attempt_34 : decode cX4_attempt 34 = .ok (.aload_n 0, 1) := by decide +kernel
theorem dX4_attempt_35 : decode cX4_attempt 35 = .ok (.getfield 18, 3) := by decide +kernel
theorem dX4_attempt_38 : decode cX4_attempt 38 = .ok (.iload_n 1, 1) := by decide +kernel
theorem dX4_attempt_39 : decode cX4_attempt 39 = .ok (.laload, 1) := by decide +kernel
theorem dX4_attempt_40 : decode cX4_attempt 40 = .ok (.ldc2_w 85, 3) := by decide +kernel
theorem dX4_attempt_43 : decode cX4_attempt 43 = .ok (.lxor, 1) := by decide +kernel
theorem dX4_attempt_44 : decode cX4_attempt 44 = .ok (.land, 1) := by decide +kernel
theorem dX4_attempt_45 : decode cX4_attempt 45 = .ok (.lstore_n 3, 1) := by decide +kernel
theorem dX4_attempt_46 : decode cX4_attempt 46 = .ok (.aload_n 0, 1) := by decide +kernel
theorem dX4_attempt_47 : decode cX4_attempt 47 = .ok (.getfield 35, 3) := by decide +kernel
theorem dX4_attempt_50 : decode cX4_attempt 50 = .ok (.getfield 49, 3) := by decide +kernel
theorem dX4_attempt_53 : decode cX4_attempt 53 = .ok (.iload_n 1, 1) := by decide +kernel
theorem dX4_attempt_54 : decode cX4_attempt 54 = .ok (.aaload, 1) := by decide +kernel
theorem dX4_attempt_55 : decode cX4_attempt 55 = .ok (.aload_n 0, 1) := by decide +kernel
theorem dX4_attempt_56 : decode cX4_attempt 56 = .ok (.getfield 35, 3) := by decide +kernel
theorem dX4_attempt_59 : decode cX4_attempt 59 = .ok (.getfield 58, 3) := by decide +kernel
theorem dX4_attempt_62 : decode cX4_attempt 62 = .ok (.aload_n 0, 1) := by decide +kernel
theorem dX4_attempt_63 : decode cX4_attempt 63 = .ok (.getfield 9, 3) := by decide +kernel
theorem dX4_attempt_66 : decode cX4_attempt 66 = .ok (.iload_n 1, 1) := by decide +kernel
theorem dX4_attempt_67 : decode cX4_attempt 67 = .ok (.iaload, 1) := by decide +kernel
theorem dX4_attempt_68 : decode cX4_attempt 68 = .ok (.iload_n 2, 1) := by decide +kernel
theorem dX4_attempt_69 : decode cX4_attempt 69 = .ok (.lload_n 3, 1) := by decide +kernel
theorem dX4_attempt_70 : decode cX4_attempt 70 = .ok (.invokevirtual 87, 3) := by decide +kernel
theorem dX4_attempt_73 : decode cX4_attempt 73 = .ok (.istore 5, 2) := by decide +kernel
theorem dX4_attempt_75 : decode cX4_attempt 75 = .ok (.iload 5, 2) := by decide +kernel
theorem dX4_attempt_77 : decode cX4_attempt 77 = .ok (.ifCond .ge 5, 3) := by decide +kernel
theorem dX4_attempt_80 : decode cX4_attempt 80 = .ok (.iconst 0, 1) := by decide +kernel
theorem dX4_attempt_81 : decode cX4_attempt 81 = .ok (.ireturn, 1) := by decide +kernel
theorem dX4_attempt_82 : decode cX4_attempt 82 = .ok (.aload_n 0, 1) := by decide +kernel
theorem dX4_attempt_83 : decode cX4_attempt 83 = .ok (.aload_n 0, 1) := by decide +kernel
theorem dX4_attempt_84 : decode cX4_attempt 84 = .ok (.getfield 22, 3) := by decide +kernel
theorem dX4_attempt_87 : decode cX4_attempt 87 = .ok (.iload_n 1, 1) := by decide +kernel
theorem dX4_attempt_88 : decode cX4_attempt 88 = .ok (.iload 5, 2) := by decide +kernel
theorem dX4_attempt_90 : decode cX4_attempt 90 = .ok (.invokestatic 91, 3) := by decide +kernel
theorem dX4_attempt_93 : decode cX4_attempt 93 = .ok (.putfield 32, 3) := by decide +kernel
theorem dX4_attempt_96 : decode cX4_attempt 96 = .ok (.iconst 1, 1) := by decide +kernel
theorem dX4_attempt_97 : decode cX4_attempt 97 = .ok (.iload_n 1, 1) := by decide +kernel
theorem dX4_attempt_98 : decode cX4_attempt 98 = .ok (.ishl, 1) := by decide +kernel
theorem dX4_attempt_99 : decode cX4_attempt 99 = .ok (.ireturn, 1) := by decide +kernel
theorem dX4_push_0 : decode cX4_push 0 = .ok (.iconst 1, 1) := by decide +kernel
theorem dX4_push_1 : decode cX4_push 1 = .ok (.iload_n 1, 1) := by decide +kernel
theorem dX4_push_2 : decode cX4_push 2 = .ok (.ishl, 1) := by decide +kernel
theorem dX4_push_3 : decode cX4_push 3 = .ok (.istore_n 3, 1) := by decide +kernel
theorem dX4_push_4 : decode cX4_push 4 = .ok (.iconst 1, 1) := by decide +kernel
theorem dX4_push_5 : decode cX4_push 5 = .ok (.istore 4, 2) := by decide +kernel
theorem dX4_push_7 : decode cX4_push 7 = .ok (.iconst 0, 1) := by decide +kernel
theorem dX4_push_8 : decode cX4_push 8 = .ok (.istore 5, 2) := by decide +kernel
theorem dX4_push_10 : decode cX4_push 10 = .ok (.aload_n 0, 1) := by decide +kernel
theorem dX4_push_11 : decode cX4_push 11 = .ok (.getfield 22, 3) := by decide +kernel
theorem dX4_push_14 : decode cX4_push 14 = .ok (.lstore 6, 2) := by decide +kernel
theorem dX4_push_16 : decode cX4_push 16 = .ok (.aload_n 0, 1) := by decide +kernel
theorem dX4_push_17 : decode cX4_push 17 = .ok (.getfield 15, 3) := by decide +kernel
theorem dX4_push_20 : decode cX4_push 20 = .ok (.iconst 0, 1) := by decide +kernel
theorem dX4_push_21 : decode cX4_push 21 = .ok (.iload_n 1, 1) := by decide +kernel
theorem dX4_push_22 : decode cX4_push 22 = .ok (.iastore, 1) := by decide +kernel
theorem dX4_push_23 : decode cX4_push 23 = .ok (.iconst 0, 1) := by decide +kernel
theorem dX4_push_24 : decode cX4_push 24 = .ok (.istore 8, 2) := by decide +kernel
theorem dX4_push_26 : decode cX4_push 26 = .ok (.iload 8, 2) := by decide +kernel
theorem dX4_push_28 : decode cX4_push 28 = .ok (.iload 4, 2) := by decide +kernel
theorem dX4_push_30 : decode cX4_push 30 = .ok (.if_icmp .ge 200, 3) := by decide +kernel
theorem dX4_push_33 : decode cX4_push 33 = .ok (.iload 8, 2) := by decide +kernel
theorem dX4_push_35 : decode cX4_push 35 = .ok (.iconst 5, 1) := by decide +kernel
theorem dX4_push_36 : decode cX4_push 36 = .ok (.if_icmp .ge 194, 3) := by decide +kernel
theorem dX4_push_39 : decode cX4_push 39 = .ok (.aload_n 0, 1) := by decide +kernel
theorem dX4_push_40 : decode cX4_push 40 = .ok (.getfield 15, 3) := by decide +kernel
theorem dX4_push_43 : decode cX4_push 43 = .ok (.iload 8, 2) := by decide +kernel
theorem dX4_push_45 : decode cX4_push 45 = .ok (.iaload, 1) := by decide +kernel
theorem dX4_push_46 : decode cX4_push 46 = .ok (.istore 9, 2) := by decide +kernel
theorem dX4_push_48 : decode cX4_push 48 = .ok (.aload_n 0, 1) := by decide +kernel
theorem dX4_push_49 : decode cX4_push 49 = .ok (.getfield 35, 3) := by decide +kernel
theorem dX4_push_52 : decode cX4_push 52 = .ok (.getfield 49, 3) := by decide +kernel
theorem dX4_push_55 : decode cX4_push 55 = .ok (.iload 9, 2) := by decide +kernel
theorem dX4_push_57 : decode cX4_push 57 = .ok (.aaload, 1) := by decide +kernel
theorem dX4_push_58 : decode cX4_push 58 = .ok (.astore 10, 2) := by decide +kernel
theorem dX4_push_60 : decode cX4_push 60 = .ok (.aload_n 0, 1) := by decide +kernel
theorem dX4_push_61 : decode cX4_push 61 = .ok (.getfield 29, 3) := by decide +kernel
theorem dX4_push_64 : decode cX4_push 64 = .ok (.aload_n 0, 1) := by decide +kernel
theorem dX4_push_65 : decode cX4_push 65 = .ok (.getfield 18, 3) := by decide +kernel
theorem dX4_push_68 : decode cX4_push 68 = .ok (.iload 9, 2) := by decide +kernel
theorem dX4_push_70 : decode cX4_push 70 = .ok (.laload, 1) := by decide +kernel
theorem dX4_push_71 : decode cX4_push 71 = .ok (.ldc2_w 85, 3) := by decide +kernel
theorem dX4_push_74 : decode cX4_push 74 = .ok (.lxor, 1) := by decide +kernel
theorem dX4_push_75 : decode cX4_push 75 = .ok (.land, 1) := by decide +kernel
theorem dX4_push_76 : decode cX4_push 76 = .ok (.lstore 11, 2) := by decide +kernel
theorem dX4_push_78 : decode cX4_push 78 = .ok (.aload 10, 2) := by decide +kernel
theorem dX4_push_80 : decode cX4_push 80 = .ok (.aload_n 0, 1) := by decide +kernel
theorem dX4_push_81 : decode cX4_push 81 = .ok (.getfield 35, 3) := by decide +kernel
theorem dX4_push_84 : decode cX4_push 84 = .ok (.getfield 58, 3) := by decide +kernel
theorem dX4_push_87 : decode cX4_push 87 = .ok (.aload_n 0, 1) := by decide +kernel
theorem dX4_push_88 : decode cX4_push 88 = .ok (.getfield 9, 3) := by decide +kernel
theorem dX4_push_91 : decode cX4_push 91 = .ok (.iload 9, 2) := by decide +kernel
theorem dX4_push_93 : decode cX4_push 93 = .ok (.iaload, 1) := by decide +kernel
theorem dX4_push_94 : decode cX4_push 94 = .ok (.iload_n 2, 1) := by decide +kernel
theorem dX4_push_95 : decode cX4_push 95 = .ok (.lload 11, 2) := by decide +kernel
theorem dX4_push_97 : decode cX4_push 97 = .ok (.invokevirtual 95, 3) := by decide +kernel
theorem dX4_push_100 : decode cX4_push 100 = .ok (.istore 13, 2) := by decide +kernel
theorem dX4_push_102 : decode cX4_push 102 = .ok (.iload 5, 2) := by decide +kernel
theorem dX4_push_104 : decode cX4_push 104 = .ok (.aload 10, 2) := by decide +kernel
theorem dX4_push_106 : decode cX4_push 106 = .ok (.getfield 77, 3) := by decide +kernel
theorem dX4_push_109 : decode cX4_push 109 = .ok (.iadd, 1) := by decide +kernel
theorem dX4_push_110 : decode cX4_push 110 = .ok (.istore 5, 2) := by decide +kernel
theorem dX4_push_112 : decode cX4_push 112 = .ok (.iload 13, 2) := by decide +kernel
theorem dX4_push_114 : decode cX4_push 114 = .ok (.ifCond .lt 15, 3) := by decide +kernel
theorem dX4_push_117 : decode cX4_push 117 = .ok (.iload 5, 2) := by decide +kernel
theorem dX4_push_119 : decode cX4_push 119 = .ok (.aload_n 0, 1) := by decide +kernel
theorem dX4_push_120 : decode cX4_push 120 = .ok (.getfield 35, 3) := by decide +kernel
theorem dX4_push_123 : decode cX4_push 123 = .ok (.getfield 98, 3) := by decide +kernel
theorem dX4_push_126 : decode cX4_push 126 = .ok (.if_icmp .le 5, 3) := by decide +kernel
theorem dX4_push_129 : decode cX4_push 129 = .ok (.iconst 0, 1) := by decide +kernel
theorem dX4_push_130 : decode cX4_push 130 = .ok (.ireturn, 1) := by decide +kernel
theorem dX4_push_131 : decode cX4_push 131 = .ok (.lload 6, 2) := by decide +kernel
theorem dX4_push_133 : decode cX4_push 133 = .ok (.iload 9, 2) := by decide +kernel
theorem dX4_push_135 : decode cX4_push 135 = .ok (.iload 13, 2) := by decide +kernel
theorem dX4_push_137 : decode cX4_push 137 = .ok (.invokestatic 91, 3) := by decide +kernel
theorem dX4_push_140 : decode cX4_push 140 = .ok (.lstore 6, 2) := by decide +kernel
theorem dX4_push_142 : decode cX4_push 142 = .ok (.iconst 0, 1) := by decide +kernel
theorem dX4_push_143 : decode cX4_push 143 = .ok (.istore 14, 2) := by decide +kernel
theorem dX4_push_145 : decode cX4_push 145 = .ok (.iload 14, 2) := by decide +kernel
theorem dX4_push_147 : decode cX4_push 147 = .ok (.iconst 5, 1) := by decide +kernel
theorem dX4_push_148 : decode cX4_push 148 = .ok (.if_icmp .ge 76, 3) := by decide +kernel
theorem dX4_push_151 : decode cX4_push 151 = .ok (.iload_n 3, 1) := by decide +kernel
theorem dX4_push_152 : decode cX4_push 152 = .ok (.iload 14, 2) := by decide +kernel
theorem dX4_push_154 : decode cX4_push 154 = .ok (.ishr, 1) := by decide +kernel
theorem dX4_push_155 : decode cX4_push 155 = .ok (.iconst 1, 1) := by decide +kernel
theorem dX4_push_156 : decode cX4_push 156 = .ok (.iand, 1) := by decide +kernel
theorem dX4_push_157 : decode cX4_push 157 = .ok (.ifCond .ne 7, 3) := by decide +kernel
theorem dX4_push_160 : decode cX4_push 160 = .ok (.iconst 1, 1) := by decide +kernel
theorem dX4_push_161 : decode cX4_push 161 = .ok (.goto 4, 3) := by decide +kernel
theorem dX4_push_164 : decode cX4_push 164 = .ok (.iconst 0, 1) := by decide +kernel
theorem dX4_push_165 : decode cX4_push 165 = .ok (.istore 15, 2) := by decide +kernel
theorem dX4_push_167 : decode cX4_push 167 = .ok (.iload 15, 2) := by decide +kernel
theorem dX4_push_169 : decode cX4_push 169 = .ok (.ifCond .eq 49, 3) := by decide +kernel
theorem dX4_push_172 : decode cX4_push 172 = .ok (.iload 4, 2) := by decide +kernel
theorem dX4_push_174 : decode cX4_push 174 = .ok (.iconst 5, 1) := by decide +kernel
theorem dX4_push_175 : decode cX4_push 175 = .ok (.if_icmp .ge 43, 3) := by decide +kernel
theorem dX4_push_178 : decode cX4_push 178 = .ok (.aload_n 0, 1) := by decide +kernel
theorem dX4_push_179 : decode cX4_push 179 = .ok (.getfield 18, 3) := by decide +kernel
theorem dX4_push_182 : decode cX4_push 182 = .ok (.iload 14, 2) := by decide +kernel
theorem dX4_push_184 : decode cX4_push 184 = .ok (.laload, 1) := by decide +kernel
theorem dX4_push_185 : decode cX4_push 185 = .ok (.aload 10, 2) := by decide +kernel
theorem dX4_push_187 : decode cX4_push 187 = .ok (.getfield 53, 3) := by decide +kernel
theorem dX4_push_190 : decode cX4_push 190 = .ok (.iload 13, 2) := by decide +kernel
theorem dX4_push_192 : decode cX4_push 192 = .ok (.laload, 1) := by decide +kernel
theorem dX4_push_193 : decode cX4_push 193 = .ok (.land, 1) := by decide +kernel
theorem dX4_push_194 : decode cX4_push 194 = .ok (.lconst 0, 1) := by decide +kernel
theorem dX4_push_195 : decode cX4_push 195 = .ok (.lcmp, 1) := by decide +kernel
theorem dX4_push_196 : decode cX4_push 196 = .ok (.ifCond .eq 22, 3) := by decide +kernel
theorem dX4_push_199 : decode cX4_push 199 = .ok (.iload_n 3, 1) := by decide +kernel
theorem dX4_push_200 : decode cX4_push 200 = .ok (.iconst 1, 1) := by decide +kernel
theorem dX4_push_201 : decode cX4_push 201 = .ok (.iload 14, 2) := by decide +kernel
theorem dX4_push_203 : decode cX4_push 203 = .ok (.ishl, 1) := by decide +kernel
theorem dX4_push_204 : decode cX4_push 204 = .ok (.ior, 1) := by decide +kernel
theorem dX4_push_205 : decode cX4_push 205 = .ok (.istore_n 3, 1) := by decide +kernel
theorem dX4_push_206 : decode cX4_push 206 = .ok (.aload_n 0, 1) := by decide +kernel
theorem dX4_push_207 : decode cX4_push 207 = .ok (.getfield 15, 3) := by decide +kernel
theorem dX4_push_210 : decode cX4_push 210 = .ok (.iload 4, 2) := by decide +kernel
theorem dX4_push_212 : decode cX4_push 212 = .ok (.iload 14, 2) := by decide +kernel
theorem dX4_push_214 : decode cX4_push 214 = .ok (.iastore, 1) := by decide +kernel
theorem dX4_push_215 : decode cX4_push 215 = .ok (.iinc 4 1, 3) := by decide +kernel
theorem dX4_push_218 : decode cX4_push 218 = .ok (.iinc 14 1, 3) := by decide +kernel
theorem dX4_push_221 : decode cX4_push 221 = .ok (.goto (-76), 3) := by decide +kernel
theorem dX4_push_224 : decode cX4_push 224 = .ok (.iinc 8 1, 3) := by decide +kernel
theorem dX4_push_227 : decode cX4_push 227 = .ok (.goto (-201), 3) := by decide +kernel
theorem dX4_push_230 : decode cX4_push 230 = .ok (.aload_n 0, 1) := by decide +kernel
theorem dX4_push_231 : decode cX4_push 231 = .ok (.lload 6, 2) := by decide +kernel
theorem dX4_push_233 : decode cX4_push 233 = .ok (.putfield 32, 3) := by decide +kernel
theorem dX4_push_236 : decode cX4_push 236 = .ok (.iload_n 3, 1) := by decide +kernel
theorem dX4_push_237 : decode cX4_push 237 = .ok (.ireturn, 1) := by decide +kernel
theorem dX5_init_0 : decode cX5_init 0 = .ok (.aload_n 0, 1) := by decide +kernel
theorem dX5_init_1 : decode cX5_init 1 = .ok (.invokespecial 5, 3) := by decide +kernel
theorem dX5_init_4 : decode cX5_init 4 = .ok (.aload_n 0, 1) := by decide +kernel
theorem dX5_init_5 : decode cX5_init 5 = .ok (.sipush 1200, 3) := by decide +kernel
theorem dX5_init_8 : decode cX5_init 8 = .ok (.newarray .long, 2) := by decide +kernel
theorem dX5_init_10 : decode cX5_init 10 = .ok (.putfield 11, 3) := by decide +kernel
theorem dX5_init_13 : decode cX5_init 13 = .ok (.aload_n 0, 1) := by decide +kernel
theorem dX5_init_14 : decode cX5_init 14 = .ok (.sipush 1200, 3) := by decide +kernel
theorem dX5_init_17 : decode cX5_init 17 = .ok (.newarray .int, 2) := by decide +kernel
theorem dX5_init_19 : decode cX5_init 19 = .ok (.putfield 15, 3) := by decide +kernel
theorem dX5_init_22 : decode cX5_init 22 = .ok (.aload_n 0, 1) := by decide +kernel
theorem dX5_init_23 : decode cX5_init 23 = .ok (.sipush 1200, 3) := by decide +kernel
theorem dX5_init_26 : decode cX5_init 26 = .ok (.newarray .int, 2) := by decide +kernel
theorem dX5_init_28 : decode cX5_init 28 = .ok (.putfield 19, 3) := by decide +kernel
theorem dX5_init_31 : decode cX5_init 31 = .ok (.aload_n 0, 1) := by decide +kernel
theorem dX5_init_32 : decode cX5_init 32 = .ok (.iconst 0, 1) := by decide +kernel
theorem dX5_init_33 : decode cX5_init 33 = .ok (.putfield 22, 3) := by decide +kernel
theorem dX5_init_36 : decode cX5_init 36 = .ok (.aload_n 0, 1) := by decide +kernel
theorem dX5_init_37 : decode cX5_init 37 = .ok (.sipush 2048, 3) := by decide +kernel
theorem dX5_init_40 : decode cX5_init 40 = .ok (.newarray .int, 2) := by decide +kernel
theorem dX5_init_42 : decode cX5_init 42 = .ok (.putfield 26, 3) := by decide +kernel
theorem dX5_init_45 : decode cX5_init 45 = .ok (.aload_n 0, 1) := by decide +kernel
theorem dX5_init_46 : decode cX5_init 46 = .ok (.sipush 1200, 3) := by decide +kernel
theorem dX5_init_49 : decode cX5_init 49 = .ok (.newarray .int, 2) := by decide +kernel
theorem dX5_init_51 : decode cX5_init 51 = .ok (.putfield 29, 3) := by decide +kernel
theorem dX5_init_54 : decode cX5_init 54 = .ok (.aload_n 0, 1) := by decide +kernel
theorem dX5_init_55 : decode cX5_init 55 = .ok (.iconst 0, 1) := by decide +kernel
theorem dX5_init_56 : decode cX5_init 56 = .ok (.putfield 32, 3) := by decide +kernel
theorem dX5_init_59 : decode cX5_init 59 = .ok (.aload_n 0, 1) := by decide +kernel
theorem dX5_init_60 : decode cX5_init 60 = .ok (.lconst 0, 1) := by decide +kernel
theorem dX5_init_61 : decode cX5_init 61 = .ok (.putfield 35, 3) := by decide +kernel
theorem dX5_init_64 : decode cX5_init 64 = .ok (.aload_n 0, 1) := by decide +kernel
theorem dX5_init_65 : decode cX5_init 65 = .ok (.iconst 0, 1) := by decide +kernel
theorem dX5_init_66 : decode cX5_init 66 = .ok (.putfield 39, 3) := by decide +kernel
theorem dX5_init_69 : decode cX5_init 69 = .ok (.aload_n 0, 1) := by decide +kernel
theorem dX5_init_70 : decode cX5_init 70 = .ok (.aload_n 1, 1) := by decide +kernel
theorem dX5_init_71 : decode cX5_init 71 = .ok (.putfield 43, 3) := by decide +kernel
theorem dX5_init_74 : decode cX5_init 74 = .ok (.aload_n 0, 1) := by decide +kernel
theorem dX5_init_75 : decode cX5_init 75 = .ok (.new 47, 3) := by decide +kernel
theorem dX5_init_78 : decode cX5_init 78 = .ok (.dup, 1) := by decide +kernel
theorem dX5_init_79 : decode cX5_init 79 = .ok (.aload_n 1, 1) := by decide +kernel
theorem dX5_init_80 : decode cX5_init 80 = .ok (.invokespecial 49, 3) := by decide +kernel
theorem dX5_init_83 : decode cX5_init 83 = .ok (.putfield 52, 3) := by decide +kernel
theorem dX5_init_86 : decode cX5_init 86 = .ok (.return_, 1) := by decide +kernel
theorem dX5_forget_0 : decode cX5_forget 0 = .ok (.aload_n 0, 1) := by decide +kernel
theorem dX5_forget_1 : decode cX5_forget 1 = .ok (.iconst 0, 1) := by decide +kernel
theorem dX5_forget_2 : decode cX5_forget 2 = .ok (.putfield 39, 3) := by decide +kernel
theorem dX5_forget_5 : decode cX5_forget 5 = .ok (.return_, 1) := by decide +kernel
theorem dX5_solutionLength_0 : decode cX5_solutionLength 0 = .ok (.aload_n 0, 1) := by decide +kernel
theorem dX5_solutionLength_1 : decode cX5_solutionLength 1 = .ok (.getfield 39, 3) := by decide +kernel
theorem dX5_solutionLength_4 : decode cX5_solutionLength 4 = .ok (.ifCond .eq 12, 3) := by decide +kernel
theorem dX5_solutionLength_7 : decode cX5_solutionLength 7 = .ok (.aload_n 0, 1) := by decide +kernel
theorem dX5_solutionLength_8 : decode cX5_solutionLength 8 = .ok (.getfield 35, 3) := by decide +kernel
theorem dX5_solutionLength_11 : decode cX5_solutionLength 11 = .ok (.lload_n 1, 1) := by decide +kernel
theorem dX5_solutionLength_12 : decode cX5_solutionLength 12 = .ok (.lcmp, 1) := by decide +kernel
theorem dX5_solutionLength_13 : decode cX5_solutionLength 13 = .ok (.ifCond .eq 22, 3) := by decide +kernel
theorem dX5_solutionLength_16 : decode cX5_solutionLength 16 = .ok (.aload_n 0, 1) := by decide +kernel
theorem dX5_solutionLength_17 : decode cX5_solutionLength 17 = .ok (.aload_n 0, 1) := by decide +kernel
theorem dX5_solutionLength_18 : decode cX5_solutionLength 18 = .ok (.lload_n 1, 1) := by decide +kernel
theorem dX5_solutionLength_19 : decode cX5_solutionLength 19 = .ok (.invokevirtual 56, 3) := by decide +kernel
theorem dX5_solutionLength_22 : decode cX5_solutionLength 22 = .ok (.putfield 32, 3) := by decide +kernel
theorem dX5_solutionLength_25 : decode cX5_solutionLength 25 = .ok (.aload_n 0, 1) := by decide +kernel
theorem dX5_solutionLength_26 : decode cX5_solutionLength 26 = .ok (.lload_n 1, 1) := by decide +kernel
theorem dX5_solutionLength_27 : decode cX5_solutionLength 27 = .ok (.putfield 35, 3) := by decide +kernel
theorem dX5_solutionLength_30 : decode cX5_solutionLength 30 = .ok (.aload_n 0, 1) := by decide +kernel
theorem dX5_solutionLength_31 : decode cX5_solutionLength 31 = .ok (.iconst 1, 1) := by decide +kernel
theorem dX5_solutionLength_32 : decode cX5_solutionLength 32 = .ok (.putfield 39, 3) := by decide +kernel
theorem dX5_solutionLength_35 : decode cX5_solutionLength 35 = .ok (.aload_n 0, 1) := by decide +kernel
theorem dX5_solutionLength_36 : decode cX5_solutionLength 36 = .ok (.getfield 32, 3) := by decide +kernel
theorem dX5_solutionLength_39 : decode cX5_solutionLength 39 = .ok (.ireturn, 1) := by decide +kernel
theorem dX5_findSolution_0 : decode cX5_findSolution 0 = .ok (.aload_n 0, 1) := by decide +kernel
theorem dX5_findSolution_1 : decode cX5_findSolution 1 = .ok (.getfield 43, 3) := by decide +kernel
theorem dX5_findSolution_4 : decode cX5_findSolution 4 = .ok (.lload_n 1, 1) := by decide +kernel
theorem dX5_findSolution_5 : decode cX5_findSolution 5 = .ok (.invokevirtual 60, 3) := by decide +kernel
theorem dX5_findSolution_8 : decode cX5_findSolution 8 = .ok (.istore_n 3, 1) := by decide +kernel
theorem dX5_findSolution_9 : decode cX5_findSolution 9 = .ok (.iload_n 3, 1) := by decide +kernel
theorem dX5_findSolution_10 : decode cX5_findSolution 10 = .ok (.ifCond .gt 14, 3) := by decide +kernel
theorem dX5_findSolution_13 : decode cX5_findSolution 13 = .ok (.iload_n 3, 1) := by decide +kernel
theorem dX5_findSolution_14 : decode cX5_findSolution 14 = .ok (.ifCond .ge 8, 3) := by decide +kernel
theorem dX5_findSolution_17 : decode cX5_findSolution 17 = .ok (.bipush (-7), 2) := by decide +kernel
theorem dX5_findSolution_19 : decode cX5_findSolution 19 = .ok (.goto 4, 3) := by decide +kernel
theorem dX5_findSolution_22 : decode cX5_findSolution 22 = .ok (.iconst 0, 1) := by decide +kernel
theorem dX5_findSolution_23 : decode cX5_findSolution 23 = .ok (.ireturn, 1) := by decide +kernel
theorem dX5_findSolution_24 : decode cX5_findSolution 24 = .ok (.aload_n 0, 1) := by decide +kernel
theorem dX5_findSolution_25 : decode cX5_findSolution 25 = .ok (.lload_n 1, 1) := by decide +kernel
theorem dX5_findSolution_26 : decode cX5_findSolution 26 = .ok (.invokevirtual 65, 3) := by decide +kernel
theorem dX5_findSolution_29 : decode cX5_findSolution 29 = .ok (.iconst 0, 1) := by decide +kernel
theorem dX5_findSolution_30 : decode cX5_findSolution 30 = .ok (.istore 4, 2) := by decide +kernel
theorem dX5_findSolution_32 : decode cX5_findSolution 32 = .ok (.iload 4, 2) := by decide +kernel
theorem dX5_findSolution_34 : decode cX5_findSolution 34 = .ok (.aload_n 0, 1) := by decide +kernel
theorem dX5_findSolution_35 : decode cX5_findSolution 35 = .ok (.getfield 22, 3) := by decide +kernel
theorem dX5_findSolution_38 : decode cX5_findSolution 38 = .ok (.if_icmp .ge 47, 3) := by decide +kernel
theorem dX5_findSolution_41 : decode cX5_findSolution 41 = .ok (.iload 4, 2) := by decide +kernel
theorem dX5_findSolution_43 : decode cX5_findSolution 43 = .ok (.sipush 1200, 3) := by decide +kernel
theorem dX5_findSolution_46 : decode cX5_findSolution 46 = .ok (.if_icmp .ge 39, 3) := by decide +kernel
theorem dX5_findSolution_49 : decode cX5_findSolution 49 = .ok (.aload_n 0, 1) := by decide +kernel
theorem dX5_findSolution_50 : decode cX5_findSolution 50 = .ok (.iload 4, 2) := by decide +kernel
theorem dX5_findSolution_52 : decode cX5_findSolution 52 = .ok (.iconst 1, 1) := by decide +kernel
theorem dX5_findSolution_53 : decode cX5_findSolution 53 = .ok (.invokevirtual 69, 3) := by decide +kernel
theorem dX5_findSolution_56 : decode cX5_findSolution 56 = .ok (.istore 5, 2) := by decide +kernel
theorem dX5_findSolution_58 : decode cX5_findSolution 58 = .ok (.iload 5, 2) := by decide +kernel
theorem dX5_findSolution_60 : decode cX5_findSolution 60 = .ok (.ifCond .eq 19, 3) := by decide +kernel
theorem dX5_findSolution_63 : decode cX5_findSolution 63 = .ok (.iload 5, 2) := by decide +kernel
theorem dX5_findSolution_65 : decode cX5_findSolution 65 = .ok (.iconst 1, 1) := by decide +kernel
theorem dX5_findSolution_66 : decode cX5_findSolution 66 = .ok (.if_icmp .ne 10, 3) := by decide +kernel
theorem dX5_findSolution_69 : decode cX5_findSolution 69 = .ok (.aload_n 0, 1) := by decide +kernel
theorem dX5_findSolution_70 : decode cX5_findSolution 70 = .ok (.invokevirtual 73, 3) := by decide +kernel
theorem dX5_findSolution_73 : decode cX5_findSolution 73 = .ok (.goto 5, 3) := by decide +kernel
theorem dX5_findSolution_76 : decode cX5_findSolution 76 = .ok (.bipush (-6), 2) := by decide +kernel
theorem dX5_findSolution_78 : decode cX5_findSolution 78 = .ok (.ireturn, 1) := by decide +kernel
theorem dX5_findSolution_79 : decode cX5_findSolution 79 = .ok (.iinc 4 1, 3) := by decide +kernel
theorem dX5_findSolution_82 : decode cX5_findSolution 82 = .ok (.goto (-50), 3) := by decide +kernel
theorem dX5_findSolution_85 : decode cX5_findSolution 85 = .ok (.bipush (-7), 2) := by decide +kernel
theorem dX5_findSolution_87 : decode cX5_findSolution 87 = .ok (.ireturn, 1) := by decide +kernel
theorem dX5_traceSolution_0 : decode cX5_traceSolution 0 = .ok (.iconst 0, 1) := by decide +kernel
theorem dX5_traceSolution_1 : decode cX5_traceSolution 1 = .ok (.istore_n 1, 1) := by decide +kernel
theorem dX5_traceSolution_2 : decode cX5_traceSolution 2 = .ok (.aload_n 0, 1) := by decide +kernel
theorem dX5_traceSolution_3 : decode cX5_traceSolution 3 = .ok (.getfield 22, 3) := by decide +kernel
theorem dX5_traceSolution_6 : decode cX5_traceSolution 6 = .ok (.iconst 1, 1) := by decide +kernel
theorem dX5_traceSolution_7 : decode cX5_traceSolution 7 = .ok (.isub, 1) := by decide +kernel
theorem dX5_traceSolution_8 : decode cX5_traceSolution 8 = .ok (.istore_n 2, 1) := by decide +kernel
theorem dX5_traceSolution_9 : decode cX5_traceSolution 9 = .ok (.iconst 0, 1) := by decide +kernel
theorem dX5_traceSolution_10 : decode cX5_traceSolution 10 = .ok (.istore_n 3, 1) := by decide +kernel
theorem dX5_traceSolution_11 : decode cX5_traceSolution 11 = .ok (.iload_n 3, 1) := by decide +kernel
theorem dX5_traceSolution_12 : decode cX5_traceSolution 12 = .ok (.sipush 1200, 3) := by decide +kernel
theorem dX5_traceSolution_15 : decode cX5_traceSolution 15 = .ok (.if_icmp .ge 23, 3) := by decide +kernel
theorem dX5_traceSolution_18 : decode cX5_traceSolution 18 = .ok (.iload_n 2, 1) := by decide +kernel
theorem dX5_traceSolution_19 : decode cX5_traceSolution 19 = .ok (.ifCond .le 19, 3) := by decide +kernel
theorem dX5_traceSolution_22 : decode cX5_traceSolution 22 = .ok (.iinc 1 1, 3) := by decide +kernel
theorem dX5_traceSolution_25 : decode cX5_traceSolution 25 = .ok (.aload_n 0, 1) := by decide +kernel
theorem dX5_traceSolution_26 : decode cX5_traceSolution 26 = .ok (.getfield 15, 3) := by decide +kernel
theorem dX5_traceSolution_29 : decode cX5_traceSolution 29 = .ok (.iload_n 2, 1) := by decide +kernel
theorem dX5_traceSolution_30 : decode cX5_traceSolution 30 = .ok (.iaload, 1) := by decide +kernel
theorem dX5_traceSolution_31 : decode cX5_traceSolution 31 = .ok (.istore_n 2, 1) := by decide +kernel
theorem dX5_traceSolution_32 : decode cX5_traceSolution 32 = .ok (.iinc 3 1, 3) := by decide +kernel
theorem dX5_traceSolution_35 : decode cX5_traceSolution 35 = .ok (.goto (-24), 3) := by decide +kernel
theorem dX5_traceSolution_38 : decode cX5_traceSolution 38 = .ok (.aload_n 0, 1) := by decide +kernel
theorem dX5_traceSolution_39 : decode cX5_traceSolution 39 = .ok (.getfield 22, 3) := by decide +kernel
theorem dX5_traceSolution_42 : decode cX5_traceSolution 42 = .ok (.iconst 1, 1) := by decide +kernel
theorem dX5_traceSolution_43 : decode cX5_traceSolution 43 = .ok (.isub, 1) := by decide +kernel
theorem dX5_traceSolution_44 : decode cX5_traceSolution 44 = .ok (.istore_n 2, 1) := by decide +kernel
theorem dX5_traceSolution_45 : decode cX5_traceSolution 45 = .ok (.iload_n 1, 1) := by decide +kernel
theorem dX5_traceSolution_46 : decode cX5_traceSolution 46 = .ok (.iconst 1, 1) := by decide +kernel
theorem dX5_traceSolution_47 : decode cX5_traceSolution 47 = .ok (.isub, 1) := by decide +kernel
theorem dX5_traceSolution_48 : decode cX5_traceSolution 48 = .ok (.istore_n 3, 1) := by decide +kernel
theorem dX5_traceSolution_49 : decode cX5_traceSolution 49 = .ok (.iload_n 3, 1) := by decide +kernel
theorem dX5_traceSolution_50 : decode cX5_traceSolution 50 = .ok (.ifCond .lt 28, 3) := by decide +kernel
theorem dX5_traceSolution_53 : decode cX5_traceSolution 53 = .ok (.aload_n 0, 1) := by decide +kernel
theorem dX5_traceSolution_54 : decode cX5_traceSolution 54 = .ok (.getfield 29, 3) := by decide +kernel
theorem dX5_traceSolution_57 : decode cX5_traceSolution 57 = .ok (.iload_n 3, 1) := by decide +kernel
theorem dX5_traceSolution_58 : decode cX5_traceSolution 58 = .ok (.aload_n 0, 1) := by decide +kernel
theorem dX5_traceSolution_59 : decode cX5_traceSolution 59 = .ok (.getfield 19, 3) := by decide +kernel
theorem dX5_traceSolution_62 : decode cX5_traceSolution 62 = .ok (.iload_n 2, 1) := by decide +kernel
theorem dX5_traceSolution_63 : decode cX5_traceSolution 63 = .ok (.iaload, 1) := by decide +kernel
theorem dX5_traceSolution_64 : decode cX5_traceSolution 64 = .ok (.iastore, 1) := by decide +kernel
theorem dX5_traceSolution_65 : decode cX5_traceSolution 65 = .ok (.aload_n 0, 1) := by decide +kernel
theorem dX5_traceSolution_66 : decode cX5_traceSolution 66 = .ok (.getfield 15, 3) := by decide +kernel
theorem dX5_traceSolution_69 : decode cX5_traceSolution 69 = .ok (.iload_n 2, 1) := by decide +kernel
theorem dX5_traceSolution_70 : decode cX5_traceSolution 70 = .ok (.iaload, 1) := by decide +kernel
theorem dX5_traceSolution_71 : decode cX5_traceSolution 71 = .ok (.istore_n 2, 1) := by decide +kernel
theorem dX5_traceSolution_72 : decode cX5_traceSolution 72 = .ok (.iinc 3 (-1), 3) := by decide +kernel
theorem dX5_traceSolution_75 : decode cX5_traceSolution 75 = .ok (.goto (-26), 3) := by decide +kernel
theorem dX5_traceSolution_78 : decode cX5_traceSolution 78 = .ok (.iload_n 1, 1) := by decide +kernel
theorem dX5_traceSolution_79 : decode cX5_traceSolution 79 = .ok (.ireturn, 1) := by decide +kernel
theorem dX5_countWithin_0 : decode cX5_countWithin 0 = .ok (.aload_n 0, 1) := by decide +kernel
theorem dX5_countWithin_1 : decode cX5_countWithin 1 = .ok (.lload_n 1, 1) := by decide +kernel
theorem dX5_countWithin_2 : decode cX5_countWithin 2 = .ok (.invokevirtual 65, 3) := by decide +kernel
theorem dX5_countWithin_5 : decode cX5_countWithin 5 = .ok (.iconst 0, 1) := by decide +kernel
theorem dX5_countWithin_6 : decode cX5_countWithin 6 = .ok (.istore 4, 2) := by decide +kernel
theorem dX5_countWithin_8 : decode cX5_countWithin 8 = .ok (.iconst 0, 1) := by decide +kernel
theorem dX5_countWithin_9 : decode cX5_countWithin 9 = .ok (.istore 5, 2) := by decide +kernel
theorem dX5_countWithin_11 : decode cX5_countWithin 11 = .ok (.iload 5, 2) := by decide +kernel
theorem dX5_countWithin_13 : decode cX5_countWithin 13 = .ok (.iload_n 3, 1) := by decide +kernel
theorem dX5_countWithin_14 : decode cX5_countWithin 14 = .ok (.if_icmp .ge 49, 3) := by decide +kernel
theorem dX5_countWithin_17 : decode cX5_countWithin 17 = .ok (.aload_n 0, 1) := by decide +kernel
theorem dX5_countWithin_18 : decode cX5_countWithin 18 = .ok (.getfield 22, 3) := by decide +kernel
theorem dX5_countWithin_21 : decode cX5_countWithin 21 = .ok (.istore 6, 2) := by decide +kernel
theorem dX5_countWithin_23 : decode cX5_countWithin 23 = .ok (.iload 4, 2) := by decide +kernel
theorem dX5_countWithin_25 : decode cX5_countWithin 25 = .ok (.istore 7, 2) := by decide +kernel
theorem dX5_countWithin_27 : decode cX5_countWithin 27 = .ok (.iload 7, 2) := by decide +kernel
theorem dX5_countWithin_29 : decode cX5_countWithin 29 = .ok (.iload 6, 2) := by decide +kernel
theorem dX5_countWithin_31 : decode cX5_countWithin 31 = .ok (.if_icmp .ge 22, 3) := by decide +kernel
theorem dX5_countWithin_34 : decode cX5_countWithin 34 = .ok (.aload_n 0, 1) := by decide +kernel
theorem dX5_countWithin_35 : decode cX5_countWithin 35 = .ok (.iload 7, 2) := by decide +kernel
theorem dX5_countWithin_37 : decode cX5_countWithin 37 = .ok (.iconst 0, 1) := by decide +kernel
theorem dX5_countWithin_38 : decode cX5_countWithin 38 = .ok (.invokevirtual 69, 3) := by decide +kernel
theorem dX5_countWithin_41 : decode cX5_countWithin 41 = .ok (.ifCond .eq 6, 3) := by decide +kernel
theorem dX5_countWithin_44 : decode cX5_countWithin 44 = .ok (.bipush (-6), 2) := by decide +kernel
theorem dX5_countWithin_46 : decode cX5_countWithin 46 = .ok (.ireturn, 1) := by decide +kernel
theorem dX5_countWithin_47 : decode cX5_countWithin 47 = .ok (.iinc 7 1, 3) := by decide +kernel
theorem dX5_countWithin_50 : decode cX5_countWithin 50 = .ok (.goto (-23), 3) := by decide +kernel
theorem dX5_countWithin_53 : decode cX5_countWithin 53 = .ok (.iload 6, 2) := by decide +kernel
theorem dX5_countWithin_55 : decode cX5_countWithin 55 = .ok (.istore 4, 2) := by decide +kernel
theorem dX5_countWithin_57 : decode cX5_countWithin 57 = .ok (.iinc 5 1, 3) := by decide +kernel
theorem dX5_countWithin_60 : decode cX5_countWithin 60 = .ok (.goto (-49), 3) := by decide +kernel
theorem dX5_countWithin_63 : decode cX5_countWithin 63 = .ok (.aload_n 0, 1) := by decide +kernel
theorem dX5_countWithin_64 : decode cX5_countWithin 64 = .ok (.getfield 22, 3) := by decide +kernel
theorem dX5_countWithin_67 : decode cX5_countWithin 67 = .ok (.ireturn, 1) := by decide +kernel
theorem dX5_begin_0 : decode cX5_begin 0 = .ok (.aload_n 0, 1) := by decide +kernel
theorem dX5_begin_1 : decode cX5_begin 1 = .ok (.getfield 26, 3) := by decide +kernel
theorem dX5_begin_4 : decode cX5_begin 4 = .ok (.iconst 0, 1) := by decide +kernel
theorem dX5_begin_5 : decode cX5_begin 5 = .ok (.invokestatic 77, 3) := by decide +kernel
theorem dX5_begin_8 : decode cX5_begin 8 = .ok (.aload_n 0, 1) := by decide +kernel
theorem dX5_begin_9 : decode cX5_begin 9 = .ok (.iconst 0, 1) := by decide +kernel
theorem dX5_begin_10 : decode cX5_begin 10 = .ok (.putfield 22, 3) := by decide +kernel
theorem dX5_begin_13 : decode cX5_begin 13 = .ok (.aload_n 0, 1) := by decide +kernel
theorem dX5_begin_14 : decode cX5_begin 14 = .ok (.aload_n 0, 1) := by decide +kernel
theorem dX5_begin_15 : decode cX5_begin 15 = .ok (.lload_n 1, 1) := by decide +kernel
theorem dX5_begin_16 : decode cX5_begin 16 = .ok (.invokevirtual 83, 3) := by decide +kernel
theorem dX5_begin_19 : decode cX5_begin 19 = .ok (.lload_n 1, 1) := by decide +kernel
theorem dX5_begin_20 : decode cX5_begin 20 = .ok (.iconst 0, 1) := by decide +kernel
theorem dX5_begin_21 : decode cX5_begin 21 = .ok (.iconst 0, 1) := by decide +kernel
theorem dX5_begin_22 : decode cX5_begin 22 = .ok (.invokevirtual 86, 3) := by decide +kernel
theorem dX5_begin_25 : decode cX5_begin 25 = .ok (.return_, 1) := by decide +kernel
theorem dX5_spread_0 : decode cX5_spread 0 = .ok (.aload_n 0, 1) := by decide +kernel
theorem dX5_spread_1 : decode cX5_spread 1 = .ok (.getfield 52, 3) := by decide +kernel
theorem dX5_spread_4 : decode cX5_spread 4 = .ok (.aload_n 0, 1) := by decide +kernel
theorem dX5_spread_5 : decode cX5_spread 5 = .ok (.getfield 11, 3) := by decide +kernel
theorem dX5_spread_8 : decode cX5_spread 8 = .ok (.iload_n 1, 1) := by decide +kernel
theorem dX5_spread_9 : decode cX5_spread 9 = .ok (.laload, 1) := by decide +kernel
theorem dX5_spread_10 : decode cX5_spread 10 = .ok (.invokevirtual 90, 3) := by decide +kernel
theorem dX5_spread_13 : decode cX5_spread 13 = .ok (.iconst 0, 1) := by decide +kernel
theorem dX5_spread_14 : decode cX5_spread 14 = .ok (.istore_n 3, 1) := by decide +kernel
theorem dX5_spread_15 : decode cX5_spread 15 = .ok (.iload_n 3, 1) := by decide +kernel
theorem dX5_spread_16 : decode cX5_spread 16 = .ok (.iconst 5, 1) := by decide +kernel
theorem dX5_spread_17 : decode cX5_spread 17 = .ok (.if_icmp .ge 125, 3) := by decide +kernel
theorem dX5_spread_20 : decode cX5_spread 20 = .ok (.iconst 0, 1) := by decide +kernel
theorem dX5_spread_21 : decode cX5_spread 21 = .ok (.istore 4, 2) := by decide +kernel
theorem dX5_spread_23 : decode cX5_spread 23 = .ok (.iload 4, 2) := by decide +kernel
theorem dX5_spread_25 : decode cX5_spread 25 = .ok (.bipush 6, 2) := by decide +kernel
theorem dX5_spread_27 : decode cX5_spread 27 = .ok (.if_icmp .ge 109, 3) := by decide +kernel
theorem dX5_spread_30 : decode cX5_spread 30 = .ok (.aload_n 0, 1) := by decide +kernel
theorem dX5_spread_31 : decode cX5_spread 31 = .ok (.getfield 52, 3) := by decide +kernel
theorem dX5_spread_34 : decode cX5_spread 34 = .ok (.iload_n 3, 1) := by decide +kernel
theorem dX5_spread_35 : decode cX5_spread 35 = .ok (.iload 4, 2) := by decide +kernel
theorem dX5_spread_37 : decode cX5_spread 37 = .ok (.invokevirtual 93, 3) := by decide +kernel
theorem dX5_spread_40 : decode cX5_spread 40 = .ok (.ifCond .ne 6, 3) := by decide +kernel
theorem dX5_spread_43 : decode cX5_spread 43 = .ok (.goto 87, 3) := by decide +kernel
theorem dX5_spread_46 : decode cX5_spread 46 = .ok (.aload_n 0, 1) := by decide +kernel
theorem dX5_spread_47 : decode cX5_spread 47 = .ok (.getfield 52, 3) := by decide +kernel
theorem dX5_spread_50 : decode cX5_spread 50 = .ok (.getfield 97, 3) := by decide +kernel
theorem dX5_spread_53 : decode cX5_spread 53 = .ok (.lstore 5, 2) := by decide +kernel
theorem dX5_spread_55 : decode cX5_spread 55 = .ok (.aload_n 0, 1) := by decide +kernel
theorem dX5_spread_56 : decode cX5_spread 56 = .ok (.lload 5, 2) := by decide +kernel
theorem dX5_spread_58 : decode cX5_spread 58 = .ok (.invokevirtual 83, 3) := by decide +kernel
theorem dX5_spread_61 : decode cX5_spread 61 = .ok (.istore 7, 2) := by decide +kernel
theorem dX5_spread_63 : decode cX5_spread 63 = .ok (.iload_n 2, 1) := by decide +kernel
theorem dX5_spread_64 : decode cX5_spread 64 = .ok (.ifCond .eq 15, 3) := by decide +kernel
theorem dX5_spread_67 : decode cX5_spread 67 = .ok (.aload_n 0, 1) := by decide +kernel
theorem dX5_spread_68 : decode cX5_spread 68 = .ok (.getfield 43, 3) := by decide +kernel
theorem dX5_spread_71 : decode cX5_spread 71 = .ok (.lload 5, 2) := by decide +kernel
theorem dX5_spread_73 : decode cX5_spread 73 = .ok (.invokevirtual 60, 3) := by decide +kernel
theorem dX5_spread_76 : decode cX5_spread 76 = .ok (.goto 4, 3) := by decide +kernel
theorem dX5_spread_79 : decode cX5_spread 79 = .ok (.iconst 1, 1) := by decide +kernel
theorem dX5_spread_80 : decode cX5_spread 80 = .ok (.istore 8, 2) := by decide +kernel
theorem dX5_spread_82 : decode cX5_spread 82 = .ok (.iload 7, 2) := by decide +kernel
theorem dX5_spread_84 : decode cX5_spread 84 = .ok (.ifCond .lt 46, 3) := by decide +kernel
theorem dX5_spread_87 : decode cX5_spread 87 = .ok (.iload 8, 2) := by decide +kernel
theorem dX5_spread_89 : decode cX5_spread 89 = .ok (.ifCond .ge 6, 3) := by decide +kernel
theorem dX5_spread_92 : decode cX5_spread 92 = .ok (.goto 38, 3) := by decide +kernel
theorem dX5_spread_95 : decode cX5_spread 95 = .ok (.aload_n 0, 1) := by decide +kernel
theorem dX5_spread_96 : decode cX5_spread 96 = .ok (.getfield 22, 3) := by decide +kernel
theorem dX5_spread_99 : decode cX5_spread 99 = .ok (.sipush 1200, 3) := by decide +kernel
theorem dX5_spread_102 : decode cX5_spread 102 = .ok (.if_icmp .lt 6, 3) := by decide +kernel
theorem dX5_spread_105 : decode cX5_spread 105 = .ok (.bipush (-6), 2) := by decide +kernel
theorem dX5_spread_107 : decode cX5_spread 107 = .ok (.ireturn, 1) := by decide +kernel
theorem dX5_spread_108 : decode cX5_spread 108 = .ok (.aload_n 0, 1) := by decide +kernel
theorem dX5_spread_109 : decode cX5_spread 109 = .ok (.iload 7, 2) := by decide +kernel
theorem dX5_spread_111 : decode cX5_spread 111 = .ok (.lload 5, 2) := by decide +kernel
theorem dX5_spread_113 : decode cX5_spread 113 = .ok (.iload_n 1, 1) := by decide +kernel
theorem dX5_spread_114 : decode cX5_spread 114 = .ok (.iload_n 3, 1) := by decide +kernel
theorem dX5_spread_115 : decode cX5_spread 115 = .ok (.iload 4, 2) := by decide +kernel
theorem dX5_spread_117 : decode cX5_spread 117 = .ok (.invokestatic 100, 3) := by decide +kernel
theorem dX5_spread_120 : decode cX5_spread 120 = .ok (.invokevirtual 86, 3) := by decide +kernel
theorem dX5_spread_123 : decode cX5_spread 123 = .ok (.iload 8, 2) := by decide +kernel
theorem dX5_spread_125 : decode cX5_spread 125 = .ok (.ifCond .ne 5, 3) := by decide +kernel
theorem dX5_spread_128 : decode cX5_spread 128 = .ok (.iconst 1, 1) := by decide +kernel
theorem dX5_spread_129 : decode cX5_spread 129 = .ok (.ireturn, 1) := by decide +kernel
theorem dX5_spread_130 : decode cX5_spread 130 = .ok (.iinc 4 1, 3) := by decide +kernel
theorem dX5_spread_133 : decode cX5_spread 133 = .ok (.goto (-110), 3) := by decide +kernel
theorem dX5_spread_136 : decode cX5_spread 136 = .ok (.iinc 3 1, 3) := by decide +kernel
theorem dX5_spread_139 : decode cX5_spread 139 = .ok (.goto (-124), 3) := by decide +kernel
theorem dX5_spread_142 : decode cX5_spread 142 = .ok (.iconst 0, 1) := by decide +kernel
theorem dX5_spread_143 : decode cX5_spread 143 = .ok (.ireturn, 1) := by decide +kernel
theorem dX5_append_0 : decode cX5_append 0 = .ok (.aload_n 0, 1) := by decide +kernel
theorem dX5_append_1 : decode cX5_append 1 = .ok (.getfield 11, 3) := by decide +kernel
theorem dX5_append_4 : decode cX5_append 4 = .ok (.aload_n 0, 1) := by decide +kernel
theorem dX5_append_5 : decode cX5_append 5 = .ok (.getfield 22, 3) := by decide +kernel
theorem dX5_append_8 : decode cX5_append 8 = .ok (.lload_n 2, 1) := by decide +kernel
theorem dX5_append_9 : decode cX5_append 9 = .ok (.lastore, 1) := by decide +kernel
theorem dX5_append_10 : decode cX5_append 10 = .ok (.aload_n 0, 1) := by decide +kernel
theorem dX5_append_11 : decode cX5_append 11 = .ok (.getfield 15, 3) := by decide +kernel
theorem dX5_append_14 : decode cX5_append 14 = .ok (.aload_n 0, 1) := by decide +kernel
theorem dX5_append_15 : decode cX5_append 15 = .ok (.getfield 22, 3) := by decide +kernel
theorem dX5_append_18 : decode cX5_append 18 = .ok (.iload 4, 2) := by decide +kernel
theorem dX5_append_20 : decode cX5_append 20 = .ok (.iastore, 1) := by decide +kernel
theorem dX5_append_21 : decode cX5_append 21 = .ok (.aload_n 0, 1) := by decide +kernel
theorem dX5_append_22 : decode cX5_append 22 = .ok (.getfield 19, 3) := by decide +kernel
theorem dX5_append_25 : decode cX5_append 25 = .ok (.aload_n 0, 1) := by decide +kernel
theorem dX5_append_26 : decode cX5_append 26 = .ok (.getfield 22, 3) := by decide +kernel
theorem dX5_append_29 : decode cX5_append 29 = .ok (.iload 5, 2) := by decide +kernel
theorem dX5_append_31 : decode cX5_append 31 = .ok (.iastore, 1) := by decide +kernel
theorem dX5_append_32 : decode cX5_append 32 = .ok (.aload_n 0, 1) := by decide +kernel
theorem dX5_append_33 : decode cX5_append 33 = .ok (.dup, 1) := by decide +kernel
theorem dX5_append_34 : decode cX5_append 34 = .ok (.getfield 22, 3) := by decide +kernel
theorem dX5_append_37 : decode cX5_append 37 = .ok (.iconst 1, 1) := by decide +kernel
theorem dX5_append_38 : decode cX5_append 38 = .ok (.iadd, 1) := by decide +kernel
theorem dX5_append_39 : decode cX5_append 39 = .ok (.putfield 22, 3) := by decide +kernel
theorem dX5_append_42 : decode cX5_append 42 = .ok (.aload_n 0, 1) := by decide +kernel
theorem dX5_append_43 : decode cX5_append 43 = .ok (.getfield 26, 3) := by decide +kernel
theorem dX5_append_46 : decode cX5_append 46 = .ok (.iload_n 1, 1) := by decide +kernel
theorem dX5_append_47 : decode cX5_append 47 = .ok (.aload_n 0, 1) := by decide +kernel
theorem dX5_append_48 : decode cX5_append 48 = .ok (.getfield 22, 3) := by decide +kernel
theorem dX5_append_51 : decode cX5_append 51 = .ok (.iastore, 1) := by decide +kernel
theorem dX5_append_52 : decode cX5_append 52 = .ok (.return_, 1) := by decide +kernel
theorem dX5_freePlaceFor_0 : decode cX5_freePlaceFor 0 = .ok (.lload_n 1, 1) := by decide +kernel
theorem dX5_freePlaceFor_1 : decode cX5_freePlaceFor 1 = .ok (.ldc2_w 103, 3) := by decide +kernel
theorem dX5_freePlaceFor_4 : decode cX5_freePlaceFor 4 = .ok (.lmul, 1) := by decide +kernel
theorem dX5_freePlaceFor_5 : decode cX5_freePlaceFor 5 = .ok (.bipush 53, 2) := by decide +kernel
theorem dX5_freePlaceFor_7 : decode cX5_freePlaceFor 7 = .ok (.lushr, 1) := by decide +kernel
theorem dX5_freePlaceFor_8 : decode cX5_freePlaceFor 8 = .ok (.l2i, 1) := by decide +kernel
theorem dX5_freePlaceFor_9 : decode cX5_freePlaceFor 9 = .ok (.istore_n 3, 1) := by decide +kernel
theorem dX5_freePlaceFor_10 : decode cX5_freePlaceFor 10 = .ok (.iconst 0, 1) := by decide +kernel
theorem dX5_freePlaceFor_11 : decode cX5_freePlaceFor 11 = .ok (.istore 4, 2) := by decide +kernel
theorem dX5_freePlaceFor_13 : decode cX5_freePlaceFor 13 = .ok (.iload 4, 2) := by decide +kernel
theorem dX5_freePlaceFor_15 : decode cX5_freePlaceFor 15 = .ok (.sipush 2048, 3) := by decide +kernel
theorem dX5_freePlaceFor_18 : decode cX5_freePlaceFor 18 = .ok (.if_icmp .ge 48, 3) := by decide +kernel
theorem dX5_freePlaceFor_21 : decode cX5_freePlaceFor 21 = .ok (.aload_n 0, 1) := by decide +kernel
theorem dX5_freePlaceFor_22 : decode cX5_freePlaceFor 22 = .ok (.getfield 26, 3) := by decide +kernel
theorem dX5_freePlaceFor_25 : decode cX5_freePlaceFor 25 = .ok (.iload_n 3, 1) := by decide +kernel
theorem dX5_freePlaceFor_26 : decode cX5_freePlaceFor 26 = .ok (.iaload, 1) := by decide +kernel
theorem dX5_freePlaceFor_27 : decode cX5_freePlaceFor 27 = .ok (.istore 5, 2) := by decide +kernel
theorem dX5_freePlaceFor_29 : decode cX5_freePlaceFor 29 = .ok (.iload 5, 2) := by decide +kernel
theorem dX5_freePlaceFor_31 : decode cX5_freePlaceFor 31 = .ok (.ifCond .ne 5, 3) := by decide +kernel
theorem dX5_freePlaceFor_34 : decode cX5_freePlaceFor 34 = .ok (.iload_n 3, 1) := by decide +kernel
theorem dX5_freePlaceFor_35 : decode cX5_freePlaceFor 35 = .ok (.ireturn, 1) := by decide +kernel
theorem dX5_freePlaceFor_36 : decode cX5_freePlaceFor 36 = .ok (.aload_n 0, 1) := by decide +kernel
theorem dX5_freePlaceFor_37 : decode cX5_freePlaceFor 37 = .ok (.getfield 11, 3) := by decide +kernel
theorem dX5_freePlaceFor_40 : decode cX5_freePlaceFor 40 = .ok (.iload 5, 2) := by decide +kernel
theorem dX5_freePlaceFor_42 : decode cX5_freePlaceFor 42 = .ok (.iconst 1, 1) := by decide +kernel
theorem dX5_freePlaceFor_43 : decode cX5_freePlaceFor 43 = .ok (.isub, 1) := by decide +kernel
theorem dX5_freePlaceFor_44 : decode cX5_freePlaceFor 44 = .ok (.laload, 1) := by decide +kernel
theorem dX5_freePlaceFor_45 : decode cX5_freePlaceFor 45 = .ok (.lload_n 1, 1) := by decide +kernel
theorem dX5_freePlaceFor_46 : decode cX5_freePlaceFor 46 = .ok (.lcmp, 1) := by decide +kernel
theorem dX5_freePlaceFor_47 : decode cX5_freePlaceFor 47 = .ok (.ifCond .ne 5, 3) := by decide +kernel
theorem dX5_freePlaceFor_50 : decode cX5_freePlaceFor 50 = .ok (.iconst (-1), 1) := by decide +kernel
theorem dX5_freePlaceFor_51 : decode cX5_freePlaceFor 51 = .ok (.ireturn, 1) := by decide +kernel
theorem dX5_freePlaceFor_52 : decode cX5_freePlaceFor 52 = .ok (.iload_n 3, 1) := by decide +kernel
theorem dX5_freePlaceFor_53 : decode cX5_freePlaceFor 53 = .ok (.iconst 1, 1) := by decide +kernel
theorem dX5_freePlaceFor_54 : decode cX5_freePlaceFor 54 = .ok (.iadd, 1) := by decide +kernel
theorem dX5_freePlaceFor_55 : decode cX5_freePlaceFor 55 = .ok (.sipush 2047, 3) := by decide +kernel
theorem dX5_freePlaceFor_58 : decode cX5_freePlaceFor 58 = .ok (.iand, 1) := by decide +kernel
theorem dX5_freePlaceFor_59 : decode cX5_freePlaceFor 59 = .ok (.istore_n 3, 1) := by decide +kernel
theorem dX5_freePlaceFor_60 : decode cX5_freePlaceFor 60 = .ok (.iinc 4 1, 3) := by decide +kernel
theorem dX5_freePlaceFor_63 : decode cX5_freePlaceFor 63 = .ok (.goto (-50), 3) := by decide +kernel
theorem dX5_freePlaceFor_66 : decode cX5_freePlaceFor 66 = .ok (.iconst (-1), 1) := by decide +kernel
theorem dX5_freePlaceFor_67 : decode cX5_freePlaceFor 67 = .ok (.ireturn, 1) := by decide +kernel
theorem dX6_init_0 : decode cX6_init 0 = .ok (.aload_n 0, 1) := by decide +kernel
theorem dX6_init_1 : decode cX6_init 1 = .ok (.invokespecial 3, 3) := by decide +kernel
theorem dX6_init_4 : decode cX6_init 4 = .ok (.aload_n 0, 1) := by decide +kernel
theorem dX6_init_5 : decode cX6_init 5 = .ok (.bipush 80, 2) := by decide +kernel
theorem dX6_init_7 : decode cX6_init 7 = .ok (.newarray .char, 2) := by decide +kernel
theorem dX6_init_9 : decode cX6_init 9 = .ok (.putfield 9, 3) := by decide +kernel
theorem dX6_init_12 : decode cX6_init 12 = .ok (.aload_n 0, 1) := by decide +kernel
theorem dX6_init_13 : decode cX6_init 13 = .ok (.iconst 0, 1) := by decide +kernel
theorem dX6_init_14 : decode cX6_init 14 = .ok (.putfield 15, 3) := by decide +kernel
theorem dX6_init_17 : decode cX6_init 17 = .ok (.return_, 1) := by decide +kernel
theorem dX6_append_0 : decode cX6_append 0 = .ok (.aload_n 0, 1) := by decide +kernel
theorem dX6_append_1 : decode cX6_append 1 = .ok (.getfield 15, 3) := by decide +kernel
theorem dX6_append_4 : decode cX6_append 4 = .ok (.bipush 80, 2) := by decide +kernel
theorem dX6_append_6 : decode cX6_append 6 = .ok (.if_icmp .lt 5, 3) := by decide +kernel
theorem dX6_append_9 : decode cX6_append 9 = .ok (.iconst 0, 1) := by decide +kernel
theorem dX6_append_10 : decode cX6_append 10 = .ok (.ireturn, 1) := by decide +kernel
theorem dX6_append_11 : decode cX6_append 11 = .ok (.aload_n 0, 1) := by decide +kernel
theorem dX6_append_12 : decode cX6_append 12 = .ok (.getfield 9, 3) := by decide +kernel
theorem dX6_append_15 : decode cX6_append 15 = .ok (.aload_n 0, 1) := by decide +kernel
theorem dX6_append_16 : decode cX6_append 16 = .ok (.getfield 15, 3) := by decide +kernel
theorem dX6_append_19 : decode cX6_append 19 = .ok (.iload_n 1, 1) := by decide +kernel
theorem dX6_append_20 : decode cX6_append 20 = .ok (.castore, 1) := by decide +kernel
theorem dX6_append_21 : decode cX6_append 21 = .ok (.aload_n 0, 1) := by decide +kernel
theorem dX6_append_22 : decode cX6_append 22 = .ok (.dup, 1) := by decide +kernel
theorem dX6_append_23 : decode cX6_append 23 = .ok (.getfield 15, 3) := by decide +kernel
theorem dX6_append_26 : decode cX6_append 26 = .ok (.iconst 1, 1) := by decide +kernel
theorem dX6_append_27 : decode cX6_append 27 = .ok (.iadd, 1) := by decide +kernel
theorem dX6_append_28 : decode cX6_append 28 = .ok (.putfield 15, 3) := by decide +kernel
theorem dX6_append_31 : decode cX6_append 31 = .ok (.iconst 1, 1) := by decide +kernel
theorem dX6_append_32 : decode cX6_append 32 = .ok (.ireturn, 1) := by decide +kernel
theorem dX6_at_0 : decode cX6_at 0 = .ok (.iload_n 1, 1) := by decide +kernel
theorem dX6_at_1 : decode cX6_at 1 = .ok (.ifCond .lt 20, 3) := by decide +kernel
theorem dX6_at_4 : decode cX6_at 4 = .ok (.iload_n 1, 1) := by decide +kernel
theorem dX6_at_5 : decode cX6_at 5 = .ok (.aload_n 0, 1) := by decide +kernel
theorem dX6_at_6 : decode cX6_at 6 = .ok (.getfield 15, 3) := by decide +kernel
theorem dX6_at_9 : decode cX6_at 9 = .ok (.if_icmp .ge 12, 3) := by decide +kernel
theorem dX6_at_12 : decode cX6_at 12 = .ok (.aload_n 0, 1) := by decide +kernel
theorem dX6_at_13 : decode cX6_at 13 = .ok (.getfield 9, 3) := by decide +kernel
theorem dX6_at_16 : decode cX6_at 16 = .ok (.iload_n 1, 1) := by decide +kernel
theorem dX6_at_17 : decode cX6_at 17 = .ok (.caload, 1) := by decide +kernel
theorem dX6_at_18 : decode cX6_at 18 = .ok (.goto 4, 3) := by decide +kernel
theorem dX6_at_21 : decode cX6_at 21 = .ok (.iconst 0, 1) := by decide +kernel
theorem dX6_at_22 : decode cX6_at 22 = .ok (.ireturn, 1) := by decide +kernel
theorem dX7_init_0 : decode cX7_init 0 = .ok (.aload_n 0, 1) := by decide +kernel
theorem dX7_init_1 : decode cX7_init 1 = .ok (.invokespecial 3, 3) := by decide +kernel
theorem dX7_init_4 : decode cX7_init 4 = .ok (.aload_n 0, 1) := by decide +kernel
theorem dX7_init_5 : decode cX7_init 5 = .ok (.iconst 3, 1) := by decide +kernel
theorem dX7_init_6 : decode cX7_init 6 = .ok (.putfield 9, 3) := by decide +kernel
theorem dX7_init_9 : decode cX7_init 9 = .ok (.aload_n 0, 1) := by decide +kernel
theorem dX7_init_10 : decode cX7_init 10 = .ok (.iconst 3, 1) := by decide +kernel
theorem dX7_init_11 : decode cX7_init 11 = .ok (.putfield 15, 3) := by decide +kernel
theorem dX7_init_14 : decode cX7_init 14 = .ok (.aload_n 0, 1) := by decide +kernel
theorem dX7_init_15 : decode cX7_init 15 = .ok (.bipush 64, 2) := by decide +kernel
theorem dX7_init_17 : decode cX7_init 17 = .ok (.newarray .int, 2) := by decide +kernel
theorem dX7_init_19 : decode cX7_init 19 = .ok (.putfield 18, 3) := by decide +kernel
theorem dX7_init_22 : decode cX7_init 22 = .ok (.aload_n 0, 1) := by decide +kernel
theorem dX7_init_23 : decode cX7_init 23 = .ok (.lconst 0, 1) := by decide +kernel
theorem dX7_init_24 : decode cX7_init 24 = .ok (.putfield 22, 3) := by decide +kernel
theorem dX7_init_27 : decode cX7_init 27 = .ok (.aload_n 0, 1) := by decide +kernel
theorem dX7_init_28 : decode cX7_init 28 = .ok (.lconst 0, 1) := by decide +kernel
theorem dX7_init_29 : decode cX7_init 29 = .ok (.putfield 26, 3) := by decide +kernel
theorem dX7_init_32 : decode cX7_init 32 = .ok (.aload_n 0, 1) := by decide +kernel
theorem dX7_init_33 : decode cX7_init 33 = .ok (.iconst 4, 1) := by decide +kernel
theorem dX7_init_34 : decode cX7_init 34 = .ok (.newarray .long, 2) := by decide +kernel
theorem dX7_init_36 : decode cX7_init 36 = .ok (.putfield 29, 3) := by decide +kernel
theorem dX7_init_39 : decode cX7_init 39 = .ok (.aload_n 0, 1) := by decide +kernel
theorem dX7_init_40 : decode cX7_init 40 = .ok (.iconst 4, 1) := by decide +kernel
theorem dX7_init_41 : decode cX7_init 41 = .ok (.newarray .long, 2) := by decide +kernel
theorem dX7_init_43 : decode cX7_init 43 = .ok (.putfield 33, 3) := by decide +kernel
theorem dX7_init_46 : decode cX7_init 46 = .ok (.aload_n 0, 1) := by decide +kernel
theorem dX7_init_47 : decode cX7_init 47 = .ok (.iconst 4, 1) := by decide +kernel
theorem dX7_init_48 : decode cX7_init 48 = .ok (.newarray .long, 2) := by decide +kernel
theorem dX7_init_50 : decode cX7_init 50 = .ok (.putfield 36, 3) := by decide +kernel
theorem dX7_init_53 : decode cX7_init 53 = .ok (.return_, 1) := by decide +kernel
theorem dX7_clear_0 : decode cX7_clear 0 = .ok (.aload_n 0, 1) := by decide +kernel
theorem dX7_clear_1 : decode cX7_clear 1 = .ok (.iload_n 1, 1) := by decide +kernel
theorem dX7_clear_2 : decode cX7_clear 2 = .ok (.putfield 9, 3) := by decide +kernel
