theorem dX12_rest_6 : decode cX12_rest 6 = .ok (.invokestatic 206, 3) := by decide +kernel
theorem dX12_rest_9 : decode cX12_rest 9 = .ok (.ifCond .eq 16, 3) := by decide +kernel
theorem dX12_rest_12 : decode cX12_rest 12 = .ok (.iload_n 1, 1) := by decide +kernel
theorem dX12_rest_13 : decode cX12_rest 13 = .ok (.iconst 5, 1) := by decide +kernel
theorem dX12_rest_14 : decode cX12_rest 14 = .ok (.if_icmp .ne 13, 3) := by decide +kernel
theorem dX12_rest_17 : decode cX12_rest 17 = .ok (.aload_n 0, 1) := by decide +kernel
theorem dX12_rest_18 : decode cX12_rest 18 = .ok (.invokevirtual 345, 3) := by decide +kernel
theorem dX12_rest_21 : decode cX12_rest 21 = .ok (.iconst 5, 1) := by decide +kernel
theorem dX12_rest_22 : decode cX12_rest 22 = .ok (.if_icmp .le 5, 3) := by decide +kernel
theorem dX12_rest_25 : decode cX12_rest 25 = .ok (.iconst (-1), 1) := by decide +kernel
theorem dX12_rest_26 : decode cX12_rest 26 = .ok (.ireturn, 1) := by decide +kernel
theorem dX12_rest_27 : decode cX12_rest 27 = .ok (.aload_n 0, 1) := by decide +kernel
theorem dX12_rest_28 : decode cX12_rest 28 = .ok (.aload_n 0, 1) := by decide +kernel
theorem dX12_rest_29 : decode cX12_rest 29 = .ok (.getfield 323, 3) := by decide +kernel
theorem dX12_rest_32 : decode cX12_rest 32 = .ok (.iload_n 1, 1) := by decide +kernel
theorem dX12_rest_33 : decode cX12_rest 33 = .ok (.invokevirtual 496, 3) := by decide +kernel
theorem dX12_rest_36 : decode cX12_rest 36 = .ok (.ifCond .eq 5, 3) := by decide +kernel
theorem dX12_rest_39 : decode cX12_rest 39 = .ok (.iconst 1, 1) := by decide +kernel
theorem dX12_rest_40 : decode cX12_rest 40 = .ok (.ireturn, 1) := by decide +kernel
theorem dX12_rest_41 : decode cX12_rest 41 = .ok (.aload_n 0, 1) := by decide +kernel
theorem dX12_rest_42 : decode cX12_rest 42 = .ok (.aload_n 0, 1) := by decide +kernel
theorem dX12_rest_43 : decode cX12_rest 43 = .ok (.getfield 443, 3) := by decide +kernel
theorem dX12_rest_46 : decode cX12_rest 46 = .ok (.putfield 139, 3) := by decide +kernel
theorem dX12_rest_49 : decode cX12_rest 49 = .ok (.aload_n 0, 1) := by decide +kernel
theorem dX12_rest_50 : decode cX12_rest 50 = .ok (.aload_n 0, 1) := by decide +kernel
theorem dX12_rest_51 : decode cX12_rest 51 = .ok (.getfield 446, 3) := by decide +kernel
theorem dX12_rest_54 : decode cX12_rest 54 = .ok (.putfield 499, 3) := by decide +kernel
theorem dX12_rest_57 : decode cX12_rest 57 = .ok (.aload_n 0, 1) := by decide +kernel
theorem dX12_rest_58 : decode cX12_rest 58 = .ok (.aload_n 0, 1) := by decide +kernel
theorem dX12_rest_59 : decode cX12_rest 59 = .ok (.getfield 449, 3) := by decide +kernel
theorem dX12_rest_62 : decode cX12_rest 62 = .ok (.putfield 502, 3) := by decide +kernel
theorem dX12_rest_65 : decode cX12_rest 65 = .ok (.iconst 0, 1) := by decide +kernel
theorem dX12_rest_66 : decode cX12_rest 66 = .ok (.ireturn, 1) := by decide +kernel
theorem dX12_bars_0 : decode cX12_bars 0 = .ok (.aload_n 0, 1) := by decide +kernel
theorem dX12_bars_1 : decode cX12_bars 1 = .ok (.getfield 139, 3) := by decide +kernel
theorem dX12_bars_4 : decode cX12_bars 4 = .ok (.iconst (-1), 1) := by decide +kernel
theorem dX12_bars_5 : decode cX12_bars 5 = .ok (.if_icmp .ne 9, 3) := by decide +kernel
theorem dX12_bars_8 : decode cX12_bars 8 = .ok (.ldc2_w 115, 3) := by decide +kernel
theorem dX12_bars_11 : decode cX12_bars 11 = .ok (.goto 43, 3) := by decide +kernel
theorem dX12_bars_14 : decode cX12_bars 14 = .ok (.iload_n 1, 1) := by decide +kernel
theorem dX12_bars_15 : decode cX12_bars 15 = .ok (.ifCond .ne 11, 3) := by decide +kernel
theorem dX12_bars_18 : decode cX12_bars 18 = .ok (.aload_n 0, 1) := by decide +kernel
theorem dX12_bars_19 : decode cX12_bars 19 = .ok (.getfield 139, 3) := by decide +kernel
theorem dX12_bars_22 : decode cX12_bars 22 = .ok (.i2l, 1) := by decide +kernel
theorem dX12_bars_23 : decode cX12_bars 23 = .ok (.goto 31, 3) := by decide +kernel
theorem dX12_bars_26 : decode cX12_bars 26 = .ok (.iload_n 1, 1) := by decide +kernel
theorem dX12_bars_27 : decode cX12_bars 27 = .ok (.iconst 1, 1) := by decide +kernel
theorem dX12_bars_28 : decode cX12_bars 28 = .ok (.if_icmp .ne 11, 3) := by decide +kernel
theorem dX12_bars_31 : decode cX12_bars 31 = .ok (.aload_n 0, 1) := by decide +kernel
theorem dX12_bars_32 : decode cX12_bars 32 = .ok (.getfield 499, 3) := by decide +kernel
theorem dX12_bars_35 : decode cX12_bars 35 = .ok (.i2l, 1) := by decide +kernel
theorem dX12_bars_36 : decode cX12_bars 36 = .ok (.goto 18, 3) := by decide +kernel
theorem dX12_bars_39 : decode cX12_bars 39 = .ok (.iload_n 1, 1) := by decide +kernel
theorem dX12_bars_40 : decode cX12_bars 40 = .ok (.iconst 2, 1) := by decide +kernel
theorem dX12_bars_41 : decode cX12_bars 41 = .ok (.if_icmp .ne 10, 3) := by decide +kernel
theorem dX12_bars_44 : decode cX12_bars 44 = .ok (.aload_n 0, 1) := by decide +kernel
theorem dX12_bars_45 : decode cX12_bars 45 = .ok (.getfield 502, 3) := by decide +kernel
theorem dX12_bars_48 : decode cX12_bars 48 = .ok (.goto 6, 3) := by decide +kernel
theorem dX12_bars_51 : decode cX12_bars 51 = .ok (.ldc2_w 115, 3) := by decide +kernel
theorem dX12_bars_54 : decode cX12_bars 54 = .ok (.lreturn, 1) := by decide +kernel
theorem dX12_isStep_0 : decode cX12_isStep 0 = .ok (.lload_n 1, 1) := by decide +kernel
theorem dX12_isStep_1 : decode cX12_isStep 1 = .ok (.iload_n 3, 1) := by decide +kernel
theorem dX12_isStep_2 : decode cX12_isStep 2 = .ok (.invokestatic 351, 3) := by decide +kernel
theorem dX12_isStep_5 : decode cX12_isStep 5 = .ok (.ifCond .eq 21, 3) := by decide +kernel
theorem dX12_isStep_8 : decode cX12_isStep 8 = .ok (.aload_n 0, 1) := by decide +kernel
theorem dX12_isStep_9 : decode cX12_isStep 9 = .ok (.lload_n 1, 1) := by decide +kernel
theorem dX12_isStep_10 : decode cX12_isStep 10 = .ok (.iload_n 3, 1) := by decide +kernel
theorem dX12_isStep_11 : decode cX12_isStep 11 = .ok (.invokevirtual 458, 3) := by decide +kernel
theorem dX12_isStep_14 : decode cX12_isStep 14 = .ok (.iconst (-1), 1) := by decide +kernel
theorem dX12_isStep_15 : decode cX12_isStep 15 = .ok (.if_icmp .eq 7, 3) := by decide +kernel
theorem dX12_isStep_18 : decode cX12_isStep 18 = .ok (.iconst 1, 1) := by decide +kernel
theorem dX12_isStep_19 : decode cX12_isStep 19 = .ok (.goto 13, 3) := by decide +kernel
theorem dX12_isStep_22 : decode cX12_isStep 22 = .ok (.iconst 0, 1) := by decide +kernel
theorem dX12_isStep_23 : decode cX12_isStep 23 = .ok (.goto 9, 3) := by decide +kernel
theorem dX12_isStep_26 : decode cX12_isStep 26 = .ok (.aload_n 0, 1) := by decide +kernel
theorem dX12_isStep_27 : decode cX12_isStep 27 = .ok (.lload_n 1, 1) := by decide +kernel
theorem dX12_isStep_28 : decode cX12_isStep 28 = .ok (.iload_n 3, 1) := by decide +kernel
theorem dX12_isStep_29 : decode cX12_isStep 29 = .ok (.invokevirtual 465, 3) := by decide +kernel
theorem dX12_isStep_32 : decode cX12_isStep 32 = .ok (.ireturn, 1) := by decide +kernel
theorem dX12_firstStep_0 : decode cX12_firstStep 0 = .ok (.aload_n 0, 1) := by decide +kernel
theorem dX12_firstStep_1 : decode cX12_firstStep 1 = .ok (.lload_n 1, 1) := by decide +kernel
theorem dX12_firstStep_2 : decode cX12_firstStep 2 = .ok (.invokevirtual 475, 3) := by decide +kernel
theorem dX12_firstStep_5 : decode cX12_firstStep 5 = .ok (.iconst 0, 1) := by decide +kernel
theorem dX12_firstStep_6 : decode cX12_firstStep 6 = .ok (.istore_n 3, 1) := by decide +kernel
theorem dX12_firstStep_7 : decode cX12_firstStep 7 = .ok (.iload_n 3, 1) := by decide +kernel
theorem dX12_firstStep_8 : decode cX12_firstStep 8 = .ok (.aload_n 0, 1) := by decide +kernel
theorem dX12_firstStep_9 : decode cX12_firstStep 9 = .ok (.invokevirtual 355, 3) := by decide +kernel
theorem dX12_firstStep_12 : decode cX12_firstStep 12 = .ok (.if_icmp .ge 20, 3) := by decide +kernel
theorem dX12_firstStep_15 : decode cX12_firstStep 15 = .ok (.aload_n 0, 1) := by decide +kernel
theorem dX12_firstStep_16 : decode cX12_firstStep 16 = .ok (.lload_n 1, 1) := by decide +kernel
theorem dX12_firstStep_17 : decode cX12_firstStep 17 = .ok (.iload_n 3, 1) := by decide +kernel
theorem dX12_firstStep_18 : decode cX12_firstStep 18 = .ok (.invokevirtual 505, 3) := by decide +kernel
theorem dX12_firstStep_21 : decode cX12_firstStep 21 = .ok (.ifCond .eq 5, 3) := by decide +kernel
theorem dX12_firstStep_24 : decode cX12_firstStep 24 = .ok (.iload_n 3, 1) := by decide +kernel
theorem dX12_firstStep_25 : decode cX12_firstStep 25 = .ok (.ireturn, 1) := by decide +kernel
theorem dX12_firstStep_26 : decode cX12_firstStep 26 = .ok (.iinc 3 1, 3) := by decide +kernel
theorem dX12_firstStep_29 : decode cX12_firstStep 29 = .ok (.goto (-22), 3) := by decide +kernel
theorem dX12_firstStep_32 : decode cX12_firstStep 32 = .ok (.iconst (-1), 1) := by decide +kernel
theorem dX12_firstStep_33 : decode cX12_firstStep 33 = .ok (.ireturn, 1) := by decide +kernel
theorem dX12_step_0 : decode cX12_step 0 = .ok (.iload_n 1, 1) := by decide +kernel
theorem dX12_step_1 : decode cX12_step 1 = .ok (.iconst (-1), 1) := by decide +kernel
theorem dX12_step_2 : decode cX12_step 2 = .ok (.if_icmp .ge 6, 3) := by decide +kernel
theorem dX12_step_5 : decode cX12_step 5 = .ok (.bipush (-2), 2) := by decide +kernel
theorem dX12_step_7 : decode cX12_step 7 = .ok (.ireturn, 1) := by decide +kernel
theorem dX12_step_8 : decode cX12_step 8 = .ok (.aload_n 0, 1) := by decide +kernel
theorem dX12_step_9 : decode cX12_step 9 = .ok (.aload_n 0, 1) := by decide +kernel
theorem dX12_step_10 : decode cX12_step 10 = .ok (.getfield 323, 3) := by decide +kernel
theorem dX12_step_13 : decode cX12_step 13 = .ok (.invokevirtual 475, 3) := by decide +kernel
theorem dX12_step_16 : decode cX12_step 16 = .ok (.iconst 0, 1) := by decide +kernel
theorem dX12_step_17 : decode cX12_step 17 = .ok (.istore_n 2, 1) := by decide +kernel
theorem dX12_step_18 : decode cX12_step 18 = .ok (.iconst 0, 1) := by decide +kernel
theorem dX12_step_19 : decode cX12_step 19 = .ok (.istore_n 3, 1) := by decide +kernel
theorem dX12_step_20 : decode cX12_step 20 = .ok (.iload_n 3, 1) := by decide +kernel
theorem dX12_step_21 : decode cX12_step 21 = .ok (.aload_n 0, 1) := by decide +kernel
theorem dX12_step_22 : decode cX12_step 22 = .ok (.invokevirtual 355, 3) := by decide +kernel
theorem dX12_step_25 : decode cX12_step 25 = .ok (.if_icmp .ge 43, 3) := by decide +kernel
theorem dX12_step_28 : decode cX12_step 28 = .ok (.iload_n 1, 1) := by decide +kernel
theorem dX12_step_29 : decode cX12_step 29 = .ok (.iconst (-1), 1) := by decide +kernel
theorem dX12_step_30 : decode cX12_step 30 = .ok (.if_icmp .ne 7, 3) := by decide +kernel
theorem dX12_step_33 : decode cX12_step 33 = .ok (.iload_n 2, 1) := by decide +kernel
theorem dX12_step_34 : decode cX12_step 34 = .ok (.ifCond .ne 34, 3) := by decide +kernel
theorem dX12_step_37 : decode cX12_step 37 = .ok (.aload_n 0, 1) := by decide +kernel
theorem dX12_step_38 : decode cX12_step 38 = .ok (.aload_n 0, 1) := by decide +kernel
theorem dX12_step_39 : decode cX12_step 39 = .ok (.getfield 323, 3) := by decide +kernel
theorem dX12_step_42 : decode cX12_step 42 = .ok (.iload_n 3, 1) := by decide +kernel
theorem dX12_step_43 : decode cX12_step 43 = .ok (.invokevirtual 505, 3) := by decide +kernel
theorem dX12_step_46 : decode cX12_step 46 = .ok (.ifCond .ne 6, 3) := by decide +kernel
theorem dX12_step_49 : decode cX12_step 49 = .ok (.goto 13, 3) := by decide +kernel
theorem dX12_step_52 : decode cX12_step 52 = .ok (.aload_n 0, 1) := by decide +kernel
theorem dX12_step_53 : decode cX12_step 53 = .ok (.getfield 142, 3) := by decide +kernel
theorem dX12_step_56 : decode cX12_step 56 = .ok (.iload_n 2, 1) := by decide +kernel
theorem dX12_step_57 : decode cX12_step 57 = .ok (.iload_n 3, 1) := by decide +kernel
theorem dX12_step_58 : decode cX12_step 58 = .ok (.iastore, 1) := by decide +kernel
theorem dX12_step_59 : decode cX12_step 59 = .ok (.iinc 2 1, 3) := by decide +kernel
theorem dX12_step_62 : decode cX12_step 62 = .ok (.iinc 3 1, 3) := by decide +kernel
theorem dX12_step_65 : decode cX12_step 65 = .ok (.goto (-45), 3) := by decide +kernel
theorem dX12_step_68 : decode cX12_step 68 = .ok (.iload_n 2, 1) := by decide +kernel
theorem dX12_step_69 : decode cX12_step 69 = .ok (.ifCond .ne 5, 3) := by decide +kernel
theorem dX12_step_72 : decode cX12_step 72 = .ok (.iconst (-1), 1) := by decide +kernel
theorem dX12_step_73 : decode cX12_step 73 = .ok (.ireturn, 1) := by decide +kernel
theorem dX12_step_74 : decode cX12_step 74 = .ok (.ldc2_w 508, 3) := by decide +kernel
theorem dX12_step_77 : decode cX12_step 77 = .ok (.iload_n 1, 1) := by decide +kernel
theorem dX12_step_78 : decode cX12_step 78 = .ok (.i2l, 1) := by decide +kernel
theorem dX12_step_79 : decode cX12_step 79 = .ok (.lmul, 1) := by decide +kernel
theorem dX12_step_80 : decode cX12_step 80 = .ok (.ldc2_w 510, 3) := by decide +kernel
theorem dX12_step_83 : decode cX12_step 83 = .ok (.ladd, 1) := by decide +kernel
theorem dX12_step_84 : decode cX12_step 84 = .ok (.ldc2_w 512, 3) := by decide +kernel
theorem dX12_step_87 : decode cX12_step 87 = .ok (.lrem, 1) := by decide +kernel
theorem dX12_step_88 : decode cX12_step 88 = .ok (.lstore_n 3, 1) := by decide +kernel
theorem dX12_step_89 : decode cX12_step 89 = .ok (.aload_n 0, 1) := by decide +kernel
theorem dX12_step_90 : decode cX12_step 90 = .ok (.getfield 142, 3) := by decide +kernel
theorem dX12_step_93 : decode cX12_step 93 = .ok (.iload_n 1, 1) := by decide +kernel
theorem dX12_step_94 : decode cX12_step 94 = .ok (.iconst (-1), 1) := by decide +kernel
theorem dX12_step_95 : decode cX12_step 95 = .ok (.if_icmp .ne 7, 3) := by decide +kernel
theorem dX12_step_98 : decode cX12_step 98 = .ok (.iconst 0, 1) := by decide +kernel
theorem dX12_step_99 : decode cX12_step 99 = .ok (.goto 12, 3) := by decide +kernel
theorem dX12_step_102 : decode cX12_step 102 = .ok (.lload_n 3, 1) := by decide +kernel
theorem dX12_step_103 : decode cX12_step 103 = .ok (.ldc2_w 514, 3) := by decide +kernel
theorem dX12_step_106 : decode cX12_step 106 = .ok (.ldiv, 1) := by decide +kernel
theorem dX12_step_107 : decode cX12_step 107 = .ok (.iload_n 2, 1) := by decide +kernel
theorem dX12_step_108 : decode cX12_step 108 = .ok (.i2l, 1) := by decide +kernel
theorem dX12_step_109 : decode cX12_step 109 = .ok (.lrem, 1) := by decide +kernel
theorem dX12_step_110 : decode cX12_step 110 = .ok (.l2i, 1) := by decide +kernel
theorem dX12_step_111 : decode cX12_step 111 = .ok (.iaload, 1) := by decide +kernel
theorem dX12_step_112 : decode cX12_step 112 = .ok (.istore 5, 2) := by decide +kernel
theorem dX12_step_114 : decode cX12_step 114 = .ok (.aload_n 0, 1) := by decide +kernel
theorem dX12_step_115 : decode cX12_step 115 = .ok (.dup, 1) := by decide +kernel
theorem dX12_step_116 : decode cX12_step 116 = .ok (.getfield 323, 3) := by decide +kernel
theorem dX12_step_119 : decode cX12_step 119 = .ok (.lconst 1, 1) := by decide +kernel
theorem dX12_step_120 : decode cX12_step 120 = .ok (.iload 5, 2) := by decide +kernel
theorem dX12_step_122 : decode cX12_step 122 = .ok (.lshl, 1) := by decide +kernel
theorem dX12_step_123 : decode cX12_step 123 = .ok (.lxor, 1) := by decide +kernel
theorem dX12_step_124 : decode cX12_step 124 = .ok (.putfield 323, 3) := by decide +kernel
theorem dX12_step_127 : decode cX12_step 127 = .ok (.iload 5, 2) := by decide +kernel
theorem dX12_step_129 : decode cX12_step 129 = .ok (.ireturn, 1) := by decide +kernel
theorem dX12_goesFrom_0 : decode cX12_goesFrom 0 = .ok (.aload_n 0, 1) := by decide +kernel
theorem dX12_goesFrom_1 : decode cX12_goesFrom 1 = .ok (.lload_n 1, 1) := by decide +kernel
theorem dX12_goesFrom_2 : decode cX12_goesFrom 2 = .ok (.putfield 516, 3) := by decide +kernel
theorem dX12_goesFrom_5 : decode cX12_goesFrom 5 = .ok (.aload_n 0, 1) := by decide +kernel
theorem dX12_goesFrom_6 : decode cX12_goesFrom 6 = .ok (.iconst (-1), 1) := by decide +kernel
theorem dX12_goesFrom_7 : decode cX12_goesFrom 7 = .ok (.putfield 519, 3) := by decide +kernel
theorem dX12_goesFrom_10 : decode cX12_goesFrom 10 = .ok (.aload_n 0, 1) := by decide +kernel
theorem dX12_goesFrom_11 : decode cX12_goesFrom 11 = .ok (.getfield 145, 3) := by decide +kernel
theorem dX12_goesFrom_14 : decode cX12_goesFrom 14 = .ok (.iconst 0, 1) := by decide +kernel
theorem dX12_goesFrom_15 : decode cX12_goesFrom 15 = .ok (.lload_n 1, 1) := by decide +kernel
theorem dX12_goesFrom_16 : decode cX12_goesFrom 16 = .ok (.lastore, 1) := by decide +kernel
theorem dX12_goesFrom_17 : decode cX12_goesFrom 17 = .ok (.iconst 0, 1) := by decide +kernel
theorem dX12_goesFrom_18 : decode cX12_goesFrom 18 = .ok (.istore_n 3, 1) := by decide +kernel
theorem dX12_goesFrom_19 : decode cX12_goesFrom 19 = .ok (.iload_n 3, 1) := by decide +kernel
theorem dX12_goesFrom_20 : decode cX12_goesFrom 20 = .ok (.sipush 200, 3) := by decide +kernel
theorem dX12_goesFrom_23 : decode cX12_goesFrom 23 = .ok (.if_icmp .gt 109, 3) := by decide +kernel
theorem dX12_goesFrom_26 : decode cX12_goesFrom 26 = .ok (.aload_n 0, 1) := by decide +kernel
theorem dX12_goesFrom_27 : decode cX12_goesFrom 27 = .ok (.aload_n 0, 1) := by decide +kernel
theorem dX12_goesFrom_28 : decode cX12_goesFrom 28 = .ok (.getfield 516, 3) := by decide +kernel
theorem dX12_goesFrom_31 : decode cX12_goesFrom 31 = .ok (.invokevirtual 522, 3) := by decide +kernel
theorem dX12_goesFrom_34 : decode cX12_goesFrom 34 = .ok (.istore 4, 2) := by decide +kernel
theorem dX12_goesFrom_36 : decode cX12_goesFrom 36 = .ok (.iload 4, 2) := by decide +kernel
theorem dX12_goesFrom_38 : decode cX12_goesFrom 38 = .ok (.iconst (-1), 1) := by decide +kernel
theorem dX12_goesFrom_39 : decode cX12_goesFrom 39 = .ok (.if_icmp .ne 5, 3) := by decide +kernel
theorem dX12_goesFrom_42 : decode cX12_goesFrom 42 = .ok (.iload_n 3, 1) := by decide +kernel
theorem dX12_goesFrom_43 : decode cX12_goesFrom 43 = .ok (.ireturn, 1) := by decide +kernel
theorem dX12_goesFrom_44 : decode cX12_goesFrom 44 = .ok (.iload_n 3, 1) := by decide +kernel
theorem dX12_goesFrom_45 : decode cX12_goesFrom 45 = .ok (.sipush 200, 3) := by decide +kernel
theorem dX12_goesFrom_48 : decode cX12_goesFrom 48 = .ok (.if_icmp .ne 5, 3) := by decide +kernel
theorem dX12_goesFrom_51 : decode cX12_goesFrom 51 = .ok (.iconst (-1), 1) := by decide +kernel
theorem dX12_goesFrom_52 : decode cX12_goesFrom 52 = .ok (.ireturn, 1) := by decide +kernel
theorem dX12_goesFrom_53 : decode cX12_goesFrom 53 = .ok (.aload_n 0, 1) := by decide +kernel
theorem dX12_goesFrom_54 : decode cX12_goesFrom 54 = .ok (.dup, 1) := by decide +kernel
theorem dX12_goesFrom_55 : decode cX12_goesFrom 55 = .ok (.getfield 516, 3) := by decide +kernel
theorem dX12_goesFrom_58 : decode cX12_goesFrom 58 = .ok (.lconst 1, 1) := by decide +kernel
theorem dX12_goesFrom_59 : decode cX12_goesFrom 59 = .ok (.iload 4, 2) := by decide +kernel
theorem dX12_goesFrom_61 : decode cX12_goesFrom 61 = .ok (.lshl, 1) := by decide +kernel
theorem dX12_goesFrom_62 : decode cX12_goesFrom 62 = .ok (.lxor, 1) := by decide +kernel
theorem dX12_goesFrom_63 : decode cX12_goesFrom 63 = .ok (.putfield 516, 3) := by decide +kernel
theorem dX12_goesFrom_66 : decode cX12_goesFrom 66 = .ok (.iconst 0, 1) := by decide +kernel
theorem dX12_goesFrom_67 : decode cX12_goesFrom 67 = .ok (.istore 5, 2) := by decide +kernel
theorem dX12_goesFrom_69 : decode cX12_goesFrom 69 = .ok (.iload 5, 2) := by decide +kernel
theorem dX12_goesFrom_71 : decode cX12_goesFrom 71 = .ok (.iload_n 3, 1) := by decide +kernel
theorem dX12_goesFrom_72 : decode cX12_goesFrom 72 = .ok (.if_icmp .gt 30, 3) := by decide +kernel
theorem dX12_goesFrom_75 : decode cX12_goesFrom 75 = .ok (.aload_n 0, 1) := by decide +kernel
theorem dX12_goesFrom_76 : decode cX12_goesFrom 76 = .ok (.getfield 145, 3) := by decide +kernel
theorem dX12_goesFrom_79 : decode cX12_goesFrom 79 = .ok (.iload 5, 2) := by decide +kernel
theorem dX12_goesFrom_81 : decode cX12_goesFrom 81 = .ok (.laload, 1) := by decide +kernel
theorem dX12_goesFrom_82 : decode cX12_goesFrom 82 = .ok (.aload_n 0, 1) := by decide +kernel
theorem dX12_goesFrom_83 : decode cX12_goesFrom 83 = .ok (.getfield 516, 3) := by decide +kernel
theorem dX12_goesFrom_86 : decode cX12_goesFrom 86 = .ok (.lcmp, 1) := by decide +kernel
theorem dX12_goesFrom_87 : decode cX12_goesFrom 87 = .ok (.ifCond .ne 9, 3) := by decide +kernel
theorem dX12_goesFrom_90 : decode cX12_goesFrom 90 = .ok (.aload_n 0, 1) := by decide +kernel
theorem dX12_goesFrom_91 : decode cX12_goesFrom 91 = .ok (.iload 5, 2) := by decide +kernel
theorem dX12_goesFrom_93 : decode cX12_goesFrom 93 = .ok (.putfield 519, 3) := by decide +kernel
theorem dX12_goesFrom_96 : decode cX12_goesFrom 96 = .ok (.iinc 5 1, 3) := by decide +kernel
theorem dX12_goesFrom_99 : decode cX12_goesFrom 99 = .ok (.goto (-30), 3) := by decide +kernel
theorem dX12_goesFrom_102 : decode cX12_goesFrom 102 = .ok (.aload_n 0, 1) := by decide +kernel
theorem dX12_goesFrom_103 : decode cX12_goesFrom 103 = .ok (.getfield 519, 3) := by decide +kernel
theorem dX12_goesFrom_106 : decode cX12_goesFrom 106 = .ok (.iconst (-1), 1) := by decide +kernel
theorem dX12_goesFrom_107 : decode cX12_goesFrom 107 = .ok (.if_icmp .eq 7, 3) := by decide +kernel
theorem dX12_goesFrom_110 : decode cX12_goesFrom 110 = .ok (.iload_n 3, 1) := by decide +kernel
theorem dX12_goesFrom_111 : decode cX12_goesFrom 111 = .ok (.iconst 1, 1) := by decide +kernel
theorem dX12_goesFrom_112 : decode cX12_goesFrom 112 = .ok (.iadd, 1) := by decide +kernel
theorem dX12_goesFrom_113 : decode cX12_goesFrom 113 = .ok (.ireturn, 1) := by decide +kernel
theorem dX12_goesFrom_114 : decode cX12_goesFrom 114 = .ok (.aload_n 0, 1) := by decide +kernel
theorem dX12_goesFrom_115 : decode cX12_goesFrom 115 = .ok (.getfield 145, 3) := by decide +kernel
theorem dX12_goesFrom_118 : decode cX12_goesFrom 118 = .ok (.iload_n 3, 1) := by decide +kernel
theorem dX12_goesFrom_119 : decode cX12_goesFrom 119 = .ok (.iconst 1, 1) := by decide +kernel
theorem dX12_goesFrom_120 : decode cX12_goesFrom 120 = .ok (.iadd, 1) := by decide +kernel
theorem dX12_goesFrom_121 : decode cX12_goesFrom 121 = .ok (.aload_n 0, 1) := by decide +kernel
theorem dX12_goesFrom_122 : decode cX12_goesFrom 122 = .ok (.getfield 516, 3) := by decide +kernel
theorem dX12_goesFrom_125 : decode cX12_goesFrom 125 = .ok (.lastore, 1) := by decide +kernel
theorem dX12_goesFrom_126 : decode cX12_goesFrom 126 = .ok (.iinc 3 1, 3) := by decide +kernel
theorem dX12_goesFrom_129 : decode cX12_goesFrom 129 = .ok (.goto (-110), 3) := by decide +kernel
theorem dX12_goesFrom_132 : decode cX12_goesFrom 132 = .ok (.iconst (-1), 1) := by decide +kernel
theorem dX12_goesFrom_133 : decode cX12_goesFrom 133 = .ok (.ireturn, 1) := by decide +kernel
theorem dX12_go_0 : decode cX12_go 0 = .ok (.aload_n 0, 1) := by decide +kernel
theorem dX12_go_1 : decode cX12_go 1 = .ok (.aload_n 0, 1) := by decide +kernel
theorem dX12_go_2 : decode cX12_go 2 = .ok (.getfield 323, 3) := by decide +kernel
theorem dX12_go_5 : decode cX12_go 5 = .ok (.invokevirtual 525, 3) := by decide +kernel
theorem dX12_go_8 : decode cX12_go 8 = .ok (.istore_n 1, 1) := by decide +kernel
theorem dX12_go_9 : decode cX12_go 9 = .ok (.aload_n 0, 1) := by decide +kernel
theorem dX12_go_10 : decode cX12_go 10 = .ok (.aload_n 0, 1) := by decide +kernel
theorem dX12_go_11 : decode cX12_go 11 = .ok (.getfield 516, 3) := by decide +kernel
theorem dX12_go_14 : decode cX12_go 14 = .ok (.putfield 323, 3) := by decide +kernel
theorem dX12_go_17 : decode cX12_go 17 = .ok (.aload_n 0, 1) := by decide +kernel
theorem dX12_go_18 : decode cX12_go 18 = .ok (.iconst 1, 1) := by decide +kernel
theorem dX12_go_19 : decode cX12_go 19 = .ok (.putfield 333, 3) := by decide +kernel
theorem dX12_go_22 : decode cX12_go 22 = .ok (.aload_n 0, 1) := by decide +kernel
theorem dX12_go_23 : decode cX12_go 23 = .ok (.aload_n 0, 1) := by decide +kernel
theorem dX12_go_24 : decode cX12_go 24 = .ok (.getfield 519, 3) := by decide +kernel
theorem dX12_go_27 : decode cX12_go 27 = .ok (.iconst (-1), 1) := by decide +kernel
theorem dX12_go_28 : decode cX12_go 28 = .ok (.if_icmp .ne 7, 3) := by decide +kernel
theorem dX12_go_31 : decode cX12_go 31 = .ok (.iconst 0, 1) := by decide +kernel
theorem dX12_go_32 : decode cX12_go 32 = .ok (.goto 9, 3) := by decide +kernel
theorem dX12_go_35 : decode cX12_go 35 = .ok (.iload_n 1, 1) := by decide +kernel
theorem dX12_go_36 : decode cX12_go 36 = .ok (.aload_n 0, 1) := by decide +kernel
theorem dX12_go_37 : decode cX12_go 37 = .ok (.getfield 519, 3) := by decide +kernel
theorem dX12_go_40 : decode cX12_go 40 = .ok (.isub, 1) := by decide +kernel
theorem dX12_go_41 : decode cX12_go 41 = .ok (.putfield 528, 3) := by decide +kernel
theorem dX12_go_44 : decode cX12_go 44 = .ok (.aload_n 0, 1) := by decide +kernel
theorem dX12_go_45 : decode cX12_go 45 = .ok (.ldc2_w 115, 3) := by decide +kernel
theorem dX12_go_48 : decode cX12_go 48 = .ok (.putfield 531, 3) := by decide +kernel
theorem dX12_go_51 : decode cX12_go 51 = .ok (.iconst 0, 1) := by decide +kernel
theorem dX12_go_52 : decode cX12_go 52 = .ok (.istore_n 2, 1) := by decide +kernel
theorem dX12_go_53 : decode cX12_go 53 = .ok (.iload_n 2, 1) := by decide +kernel
theorem dX12_go_54 : decode cX12_go 54 = .ok (.aload_n 0, 1) := by decide +kernel
theorem dX12_go_55 : decode cX12_go 55 = .ok (.getfield 528, 3) := by decide +kernel
theorem dX12_go_58 : decode cX12_go 58 = .ok (.if_icmp .ge 47, 3) := by decide +kernel
theorem dX12_go_61 : decode cX12_go 61 = .ok (.iload_n 2, 1) := by decide +kernel
theorem dX12_go_62 : decode cX12_go 62 = .ok (.ifCond .eq 22, 3) := by decide +kernel
theorem dX12_go_65 : decode cX12_go 65 = .ok (.aload_n 0, 1) := by decide +kernel
theorem dX12_go_66 : decode cX12_go 66 = .ok (.getfield 145, 3) := by decide +kernel
theorem dX12_go_69 : decode cX12_go 69 = .ok (.aload_n 0, 1) := by decide +kernel
theorem dX12_go_70 : decode cX12_go 70 = .ok (.getfield 519, 3) := by decide +kernel
theorem dX12_go_73 : decode cX12_go 73 = .ok (.iload_n 2, 1) := by decide +kernel
theorem dX12_go_74 : decode cX12_go 74 = .ok (.iadd, 1) := by decide +kernel
theorem dX12_go_75 : decode cX12_go 75 = .ok (.laload, 1) := by decide +kernel
theorem dX12_go_76 : decode cX12_go 76 = .ok (.aload_n 0, 1) := by decide +kernel
theorem dX12_go_77 : decode cX12_go 77 = .ok (.getfield 531, 3) := by decide +kernel
theorem dX12_go_80 : decode cX12_go 80 = .ok (.lcmp, 1) := by decide +kernel
theorem dX12_go_81 : decode cX12_go 81 = .ok (.ifCond .ge 18, 3) := by decide +kernel
theorem dX12_go_84 : decode cX12_go 84 = .ok (.aload_n 0, 1) := by decide +kernel
theorem dX12_go_85 : decode cX12_go 85 = .ok (.aload_n 0, 1) := by decide +kernel
theorem dX12_go_86 : decode cX12_go 86 = .ok (.getfield 145, 3) := by decide +kernel
theorem dX12_go_89 : decode cX12_go 89 = .ok (.aload_n 0, 1) := by decide +kernel
theorem dX12_go_90 : decode cX12_go 90 = .ok (.getfield 519, 3) := by decide +kernel
theorem dX12_go_93 : decode cX12_go 93 = .ok (.iload_n 2, 1) := by decide +kernel
theorem dX12_go_94 : decode cX12_go 94 = .ok (.iadd, 1) := by decide +kernel
theorem dX12_go_95 : decode cX12_go 95 = .ok (.laload, 1) := by decide +kernel
theorem dX12_go_96 : decode cX12_go 96 = .ok (.putfield 531, 3) := by decide +kernel
theorem dX12_go_99 : decode cX12_go 99 = .ok (.iinc 2 1, 3) := by decide +kernel
theorem dX12_go_102 : decode cX12_go 102 = .ok (.goto (-49), 3) := by decide +kernel
theorem dX12_go_105 : decode cX12_go 105 = .ok (.iload_n 1, 1) := by decide +kernel
theorem dX12_go_106 : decode cX12_go 106 = .ok (.ireturn, 1) := by decide +kernel
theorem dX12_ring_0 : decode cX12_ring 0 = .ok (.aload_n 0, 1) := by decide +kernel
theorem dX12_ring_1 : decode cX12_ring 1 = .ok (.getfield 333, 3) := by decide +kernel
theorem dX12_ring_4 : decode cX12_ring 4 = .ok (.ifCond .ne 9, 3) := by decide +kernel
theorem dX12_ring_7 : decode cX12_ring 7 = .ok (.ldc2_w 115, 3) := by decide +kernel
theorem dX12_ring_10 : decode cX12_ring 10 = .ok (.goto 30, 3) := by decide +kernel
theorem dX12_ring_13 : decode cX12_ring 13 = .ok (.iload_n 1, 1) := by decide +kernel
theorem dX12_ring_14 : decode cX12_ring 14 = .ok (.ifCond .ne 11, 3) := by decide +kernel
theorem dX12_ring_17 : decode cX12_ring 17 = .ok (.aload_n 0, 1) := by decide +kernel
theorem dX12_ring_18 : decode cX12_ring 18 = .ok (.getfield 528, 3) := by decide +kernel
theorem dX12_ring_21 : decode cX12_ring 21 = .ok (.i2l, 1) := by decide +kernel
theorem dX12_ring_22 : decode cX12_ring 22 = .ok (.goto 18, 3) := by decide +kernel
theorem dX12_ring_25 : decode cX12_ring 25 = .ok (.iload_n 1, 1) := by decide +kernel
theorem dX12_ring_26 : decode cX12_ring 26 = .ok (.iconst 1, 1) := by decide +kernel
theorem dX12_ring_27 : decode cX12_ring 27 = .ok (.if_icmp .ne 10, 3) := by decide +kernel
theorem dX12_ring_30 : decode cX12_ring 30 = .ok (.aload_n 0, 1) := by decide +kernel
theorem dX12_ring_31 : decode cX12_ring 31 = .ok (.getfield 531, 3) := by decide +kernel
theorem dX12_ring_34 : decode cX12_ring 34 = .ok (.goto 6, 3) := by decide +kernel
theorem dX12_ring_37 : decode cX12_ring 37 = .ok (.ldc2_w 115, 3) := by decide +kernel
theorem dX12_ring_40 : decode cX12_ring 40 = .ok (.lreturn, 1) := by decide +kernel
theorem dX12_areFew_0 : decode cX12_areFew 0 = .ok (.aload_n 0, 1) := by decide +kernel
theorem dX12_areFew_1 : decode cX12_areFew 1 = .ok (.invokevirtual 345, 3) := by decide +kernel
theorem dX12_areFew_4 : decode cX12_areFew 4 = .ok (.i2l, 1) := by decide +kernel
theorem dX12_areFew_5 : decode cX12_areFew 5 = .ok (.ldc2_w 534, 3) := by decide +kernel
theorem dX12_areFew_8 : decode cX12_areFew 8 = .ok (.ldc2_w 368, 3) := by decide +kernel
theorem dX12_areFew_11 : decode cX12_areFew 11 = .ok (.invokestatic 206, 3) := by decide +kernel
theorem dX12_areFew_14 : decode cX12_areFew 14 = .ok (.ireturn, 1) := by decide +kernel
theorem dX12_goesOn__0 : decode cX12_goesOn_ 0 = .ok (.iload_n 1, 1) := by decide +kernel
theorem dX12_goesOn__1 : decode cX12_goesOn_ 1 = .ok (.iconst 2, 1) := by decide +kernel
theorem dX12_goesOn__2 : decode cX12_goesOn_ 2 = .ok (.isub, 1) := by decide +kernel
theorem dX12_goesOn__3 : decode cX12_goesOn_ 3 = .ok (.istore_n 2, 1) := by decide +kernel
theorem dX12_goesOn__4 : decode cX12_goesOn_ 4 = .ok (.iload_n 2, 1) := by decide +kernel
theorem dX12_goesOn__5 : decode cX12_goesOn_ 5 = .ok (.ifCond .lt 26, 3) := by decide +kernel
theorem dX12_goesOn__8 : decode cX12_goesOn_ 8 = .ok (.aload_n 0, 1) := by decide +kernel
theorem dX12_goesOn__9 : decode cX12_goesOn_ 9 = .ok (.getfield 151, 3) := by decide +kernel
theorem dX12_goesOn__12 : decode cX12_goesOn_ 12 = .ok (.iload_n 2, 1) := by decide +kernel
theorem dX12_goesOn__13 : decode cX12_goesOn_ 13 = .ok (.iaload, 1) := by decide +kernel
theorem dX12_goesOn__14 : decode cX12_goesOn_ 14 = .ok (.aload_n 0, 1) := by decide +kernel
theorem dX12_goesOn__15 : decode cX12_goesOn_ 15 = .ok (.getfield 151, 3) := by decide +kernel
theorem dX12_goesOn__18 : decode cX12_goesOn_ 18 = .ok (.iload_n 2, 1) := by decide +kernel
theorem dX12_goesOn__19 : decode cX12_goesOn_ 19 = .ok (.iconst 1, 1) := by decide +kernel
theorem dX12_goesOn__20 : decode cX12_goesOn_ 20 = .ok (.iadd, 1) := by decide +kernel
theorem dX12_goesOn__21 : decode cX12_goesOn_ 21 = .ok (.iaload, 1) := by decide +kernel
theorem dX12_goesOn__22 : decode cX12_goesOn_ 22 = .ok (.if_icmp .le 9, 3) := by decide +kernel
theorem dX12_goesOn__25 : decode cX12_goesOn_ 25 = .ok (.iinc 2 (-1), 3) := by decide +kernel
theorem dX12_goesOn__28 : decode cX12_goesOn_ 28 = .ok (.goto (-24), 3) := by decide +kernel
theorem dX12_goesOn__31 : decode cX12_goesOn_ 31 = .ok (.iload_n 2, 1) := by decide +kernel
theorem dX12_goesOn__32 : decode cX12_goesOn_ 32 = .ok (.ifCond .ge 5, 3) := by decide +kernel
theorem dX12_goesOn__35 : decode cX12_goesOn_ 35 = .ok (.iconst 0, 1) := by decide +kernel
theorem dX12_goesOn__36 : decode cX12_goesOn_ 36 = .ok (.ireturn, 1) := by decide +kernel
theorem dX12_goesOn__37 : decode cX12_goesOn_ 37 = .ok (.iload_n 1, 1) := by decide +kernel
theorem dX12_goesOn__38 : decode cX12_goesOn_ 38 = .ok (.iconst 1, 1) := by decide +kernel
theorem dX12_goesOn__39 : decode cX12_goesOn_ 39 = .ok (.isub, 1) := by decide +kernel
theorem dX12_goesOn__40 : decode cX12_goesOn_ 40 = .ok (.istore_n 3, 1) := by decide +kernel
theorem dX12_goesOn__41 : decode cX12_goesOn_ 41 = .ok (.aload_n 0, 1) := by decide +kernel
theorem dX12_goesOn__42 : decode cX12_goesOn_ 42 = .ok (.getfield 151, 3) := by decide +kernel
theorem dX12_goesOn__45 : decode cX12_goesOn_ 45 = .ok (.iload_n 3, 1) := by decide +kernel
theorem dX12_goesOn__46 : decode cX12_goesOn_ 46 = .ok (.iaload, 1) := by decide +kernel
theorem dX12_goesOn__47 : decode cX12_goesOn_ 47 = .ok (.aload_n 0, 1) := by decide +kernel
theorem dX12_goesOn__48 : decode cX12_goesOn_ 48 = .ok (.getfield 151, 3) := by decide +kernel
theorem dX12_goesOn__51 : decode cX12_goesOn_ 51 = .ok (.iload_n 2, 1) := by decide +kernel
theorem dX12_goesOn__52 : decode cX12_goesOn_ 52 = .ok (.iaload, 1) := by decide +kernel
theorem dX12_goesOn__53 : decode cX12_goesOn_ 53 = .ok (.if_icmp .ge 9, 3) := by decide +kernel
theorem dX12_goesOn__56 : decode cX12_goesOn_ 56 = .ok (.iinc 3 (-1), 3) := by decide +kernel
theorem dX12_goesOn__59 : decode cX12_goesOn_ 59 = .ok (.goto (-18), 3) := by decide +kernel
theorem dX12_goesOn__62 : decode cX12_goesOn_ 62 = .ok (.aload_n 0, 1) := by decide +kernel
theorem dX12_goesOn__63 : decode cX12_goesOn_ 63 = .ok (.getfield 151, 3) := by decide +kernel
theorem dX12_goesOn__66 : decode cX12_goesOn_ 66 = .ok (.iload_n 2, 1) := by decide +kernel
theorem dX12_goesOn__67 : decode cX12_goesOn_ 67 = .ok (.iaload, 1) := by decide +kernel
theorem dX12_goesOn__68 : decode cX12_goesOn_ 68 = .ok (.istore 4, 2) := by decide +kernel
theorem dX12_goesOn__70 : decode cX12_goesOn_ 70 = .ok (.aload_n 0, 1) := by decide +kernel
theorem dX12_goesOn__71 : decode cX12_goesOn_ 71 = .ok (.getfield 151, 3) := by decide +kernel
theorem dX12_goesOn__74 : decode cX12_goesOn_ 74 = .ok (.iload_n 2, 1) := by decide +kernel
theorem dX12_goesOn__75 : decode cX12_goesOn_ 75 = .ok (.aload_n 0, 1) := by decide +kernel
theorem dX12_goesOn__76 : decode cX12_goesOn_ 76 = .ok (.getfield 151, 3) := by decide +kernel
theorem dX12_goesOn__79 : decode cX12_goesOn_ 79 = .ok (.iload_n 3, 1) := by decide +kernel
theorem dX12_goesOn__80 : decode cX12_goesOn_ 80 = .ok (.iaload, 1) := by decide +kernel
theorem dX12_goesOn__81 : decode cX12_goesOn_ 81 = .ok (.iastore, 1) := by decide +kernel
theorem dX12_goesOn__82 : decode cX12_goesOn_ 82 = .ok (.aload_n 0, 1) := by decide +kernel
theorem dX12_goesOn__83 : decode cX12_goesOn_ 83 = .ok (.getfield 151, 3) := by decide +kernel
theorem dX12_goesOn__86 : decode cX12_goesOn_ 86 = .ok (.iload_n 3, 1) := by decide +kernel
theorem dX12_goesOn__87 : decode cX12_goesOn_ 87 = .ok (.iload 4, 2) := by decide +kernel
theorem dX12_goesOn__89 : decode cX12_goesOn_ 89 = .ok (.iastore, 1) := by decide +kernel
theorem dX12_goesOn__90 : decode cX12_goesOn_ 90 = .ok (.iload_n 2, 1) := by decide +kernel
theorem dX12_goesOn__91 : decode cX12_goesOn_ 91 = .ok (.iconst 1, 1) := by decide +kernel
theorem dX12_goesOn__92 : decode cX12_goesOn_ 92 = .ok (.iadd, 1) := by decide +kernel
theorem dX12_goesOn__93 : decode cX12_goesOn_ 93 = .ok (.istore 5, 2) := by decide +kernel
theorem dX12_goesOn__95 : decode cX12_goesOn_ 95 = .ok (.iload_n 1, 1) := by decide +kernel
theorem dX12_goesOn__96 : decode cX12_goesOn_ 96 = .ok (.iconst 1, 1) := by decide +kernel
theorem dX12_goesOn__97 : decode cX12_goesOn_ 97 = .ok (.isub, 1) := by decide +kernel
theorem dX12_goesOn__98 : decode cX12_goesOn_ 98 = .ok (.istore 6, 2) := by decide +kernel
theorem dX12_goesOn__100 : decode cX12_goesOn_ 100 = .ok (.iload 5, 2) := by decide +kernel
theorem dX12_goesOn__102 : decode cX12_goesOn_ 102 = .ok (.iload 6, 2) := by decide +kernel
theorem dX12_goesOn__104 : decode cX12_goesOn_ 104 = .ok (.if_icmp .ge 44, 3) := by decide +kernel
theorem dX12_goesOn__107 : decode cX12_goesOn_ 107 = .ok (.aload_n 0, 1) := by decide +kernel
theorem dX12_goesOn__108 : decode cX12_goesOn_ 108 = .ok (.getfield 151, 3) := by decide +kernel
theorem dX12_goesOn__111 : decode cX12_goesOn_ 111 = .ok (.iload 5, 2) := by decide +kernel
theorem dX12_goesOn__113 : decode cX12_goesOn_ 113 = .ok (.iaload, 1) := by decide +kernel
theorem dX12_goesOn__114 : decode cX12_goesOn_ 114 = .ok (.istore 4, 2) := by decide +kernel
theorem dX12_goesOn__116 : decode cX12_goesOn_ 116 = .ok (.aload_n 0, 1) := by decide +kernel
theorem dX12_goesOn__117 : decode cX12_goesOn_ 117 = .ok (.getfield 151, 3) := by decide +kernel
theorem dX12_goesOn__120 : decode cX12_goesOn_ 120 = .ok (.iload 5, 2) := by decide +kernel
theorem dX12_goesOn__122 : decode cX12_goesOn_ 122 = .ok (.aload_n 0, 1) := by decide +kernel
theorem dX12_goesOn__123 : decode cX12_goesOn_ 123 = .ok (.getfield 151, 3) := by decide +kernel
theorem dX12_goesOn__126 : decode cX12_goesOn_ 126 = .ok (.iload 6, 2) := by decide +kernel
theorem dX12_goesOn__128 : decode cX12_goesOn_ 128 = .ok (.iaload, 1) := by decide +kernel
theorem dX12_goesOn__129 : decode cX12_goesOn_ 129 = .ok (.iastore, 1) := by decide +kernel
theorem dX12_goesOn__130 : decode cX12_goesOn_ 130 = .ok (.aload_n 0, 1) := by decide +kernel
theorem dX12_goesOn__131 : decode cX12_goesOn_ 131 = .ok (.getfield 151, 3) := by decide +kernel
theorem dX12_goesOn__134 : decode cX12_goesOn_ 134 = .ok (.iload 6, 2) := by decide +kernel
theorem dX12_goesOn__136 : decode cX12_goesOn_ 136 = .ok (.iload 4, 2) := by decide +kernel
theorem dX12_goesOn__138 : decode cX12_goesOn_ 138 = .ok (.iastore, 1) := by decide +kernel
theorem dX12_goesOn__139 : decode cX12_goesOn_ 139 = .ok (.iinc 5 1, 3) := by decide +kernel
theorem dX12_goesOn__142 : decode cX12_goesOn_ 142 = .ok (.iinc 6 (-1), 3) := by decide +kernel
theorem dX12_goesOn__145 : decode cX12_goesOn_ 145 = .ok (.goto (-45), 3) := by decide +kernel
theorem dX12_goesOn__148 : decode cX12_goesOn_ 148 = .ok (.iconst 1, 1) := by decide +kernel
theorem dX12_goesOn__149 : decode cX12_goesOn_ 149 = .ok (.ireturn, 1) := by decide +kernel
theorem dX12_beginsOrder_0 : decode cX12_beginsOrder 0 = .ok (.iconst 0, 1) := by decide +kernel
theorem dX12_beginsOrder_1 : decode cX12_beginsOrder 1 = .ok (.istore_n 2, 1) := by decide +kernel
theorem dX12_beginsOrder_2 : decode cX12_beginsOrder 2 = .ok (.iload_n 2, 1) := by decide +kernel
theorem dX12_beginsOrder_3 : decode cX12_beginsOrder 3 = .ok (.iload_n 1, 1) := by decide +kernel
theorem dX12_beginsOrder_4 : decode cX12_beginsOrder 4 = .ok (.if_icmp .ge 16, 3) := by decide +kernel
theorem dX12_beginsOrder_7 : decode cX12_beginsOrder 7 = .ok (.aload_n 0, 1) := by decide +kernel
theorem dX12_beginsOrder_8 : decode cX12_beginsOrder 8 = .ok (.getfield 151, 3) := by decide +kernel
theorem dX12_beginsOrder_11 : decode cX12_beginsOrder 11 = .ok (.iload_n 2, 1) := by decide +kernel
theorem dX12_beginsOrder_12 : decode cX12_beginsOrder 12 = .ok (.iload_n 2, 1) := by decide +kernel
theorem dX12_beginsOrder_13 : decode cX12_beginsOrder 13 = .ok (.iastore, 1) := by decide +kernel
theorem dX12_beginsOrder_14 : decode cX12_beginsOrder 14 = .ok (.iinc 2 1, 3) := by decide +kernel
theorem dX12_beginsOrder_17 : decode cX12_beginsOrder 17 = .ok (.goto (-15), 3) := by decide +kernel
theorem dX12_beginsOrder_20 : decode cX12_beginsOrder 20 = .ok (.return_, 1) := by decide +kernel
theorem dX12_isSameShape_0 : decode cX12_isSameShape 0 = .ok (.aload_n 0, 1) := by decide +kernel
theorem dX12_isSameShape_1 : decode cX12_isSameShape 1 = .ok (.invokevirtual 345, 3) := by decide +kernel
theorem dX12_isSameShape_4 : decode cX12_isSameShape 4 = .ok (.istore 5, 2) := by decide +kernel
theorem dX12_isSameShape_6 : decode cX12_isSameShape 6 = .ok (.aload_n 0, 1) := by decide +kernel
theorem dX12_isSameShape_7 : decode cX12_isSameShape 7 = .ok (.iload 5, 2) := by decide +kernel
theorem dX12_isSameShape_9 : decode cX12_isSameShape 9 = .ok (.invokevirtual 536, 3) := by decide +kernel
theorem dX12_isSameShape_12 : decode cX12_isSameShape 12 = .ok (.iconst 1, 1) := by decide +kernel
theorem dX12_isSameShape_13 : decode cX12_isSameShape 13 = .ok (.istore 6, 2) := by decide +kernel
theorem dX12_isSameShape_15 : decode cX12_isSameShape 15 = .ok (.iload 6, 2) := by decide +kernel
theorem dX12_isSameShape_17 : decode cX12_isSameShape 17 = .ok (.ifCond .eq 82, 3) := by decide +kernel
theorem dX12_isSameShape_20 : decode cX12_isSameShape 20 = .ok (.lconst 0, 1) := by decide +kernel
theorem dX12_isSameShape_21 : decode cX12_isSameShape 21 = .ok (.lstore 7, 2) := by decide +kernel
theorem dX12_isSameShape_23 : decode cX12_isSameShape 23 = .ok (.iconst 0, 1) := by decide +kernel
theorem dX12_isSameShape_24 : decode cX12_isSameShape 24 = .ok (.istore 9, 2) := by decide +kernel
theorem dX12_isSameShape_26 : decode cX12_isSameShape 26 = .ok (.iload 9, 2) := by decide +kernel
theorem dX12_isSameShape_28 : decode cX12_isSameShape 28 = .ok (.aload_n 0, 1) := by decide +kernel
theorem dX12_isSameShape_29 : decode cX12_isSameShape 29 = .ok (.invokevirtual 355, 3) := by decide +kernel
theorem dX12_isSameShape_32 : decode cX12_isSameShape 32 = .ok (.if_icmp .ge 47, 3) := by decide +kernel
theorem dX12_isSameShape_35 : decode cX12_isSameShape 35 = .ok (.lload_n 1, 1) := by decide +kernel
theorem dX12_isSameShape_36 : decode cX12_isSameShape 36 = .ok (.iload 9, 2) := by decide +kernel
theorem dX12_isSameShape_38 : decode cX12_isSameShape 38 = .ok (.invokestatic 351, 3) := by decide +kernel
theorem dX12_isSameShape_41 : decode cX12_isSameShape 41 = .ok (.ifCond .eq 32, 3) := by decide +kernel
theorem dX12_isSameShape_44 : decode cX12_isSameShape 44 = .ok (.lload 7, 2) := by decide +kernel
theorem dX12_isSameShape_46 : decode cX12_isSameShape 46 = .ok (.aload_n 0, 1) := by decide +kernel
theorem dX12_isSameShape_47 : decode cX12_isSameShape 47 = .ok (.aload_n 0, 1) := by decide +kernel
theorem dX12_isSameShape_48 : decode cX12_isSameShape 48 = .ok (.getfield 151, 3) := by decide +kernel
theorem dX12_isSameShape_51 : decode cX12_isSameShape 51 = .ok (.iload 9, 2) := by decide +kernel
theorem dX12_isSameShape_53 : decode cX12_isSameShape 53 = .ok (.invokestatic 452, 3) := by decide +kernel
theorem dX12_isSameShape_56 : decode cX12_isSameShape 56 = .ok (.iaload, 1) := by decide +kernel
theorem dX12_isSameShape_57 : decode cX12_isSameShape 57 = .ok (.aload_n 0, 1) := by decide +kernel
theorem dX12_isSameShape_58 : decode cX12_isSameShape 58 = .ok (.getfield 151, 3) := by decide +kernel
theorem dX12_isSameShape_61 : decode cX12_isSameShape 61 = .ok (.iload 9, 2) := by decide +kernel
theorem dX12_isSameShape_63 : decode cX12_isSameShape 63 = .ok (.invokestatic 348, 3) := by decide +kernel
theorem dX12_isSameShape_66 : decode cX12_isSameShape 66 = .ok (.iaload, 1) := by decide +kernel
theorem dX12_isSameShape_67 : decode cX12_isSameShape 67 = .ok (.invokevirtual 374, 3) := by decide +kernel
theorem dX12_isSameShape_70 : decode cX12_isSameShape 70 = .ok (.lor, 1) := by decide +kernel
theorem dX12_isSameShape_71 : decode cX12_isSameShape 71 = .ok (.lstore 7, 2) := by decide +kernel
theorem dX12_isSameShape_73 : decode cX12_isSameShape 73 = .ok (.iinc 9 1, 3) := by decide +kernel
theorem dX12_isSameShape_76 : decode cX12_isSameShape 76 = .ok (.goto (-50), 3) := by decide +kernel
theorem dX12_isSameShape_79 : decode cX12_isSameShape 79 = .ok (.lload 7, 2) := by decide +kernel
theorem dX12_isSameShape_81 : decode cX12_isSameShape 81 = .ok (.lload_n 3, 1) := by decide +kernel
theorem dX12_isSameShape_82 : decode cX12_isSameShape 82 = .ok (.lcmp, 1) := by decide +kernel
theorem dX12_isSameShape_83 : decode cX12_isSameShape 83 = .ok (.ifCond .ne 5, 3) := by decide +kernel
theorem dX12_isSameShape_86 : decode cX12_isSameShape 86 = .ok (.iconst 1, 1) := by decide +kernel
theorem dX12_isSameShape_87 : decode cX12_isSameShape 87 = .ok (.ireturn, 1) := by decide +kernel
theorem dX12_isSameShape_88 : decode cX12_isSameShape 88 = .ok (.aload_n 0, 1) := by decide +kernel
theorem dX12_isSameShape_89 : decode cX12_isSameShape 89 = .ok (.iload 5, 2) := by decide +kernel
theorem dX12_isSameShape_91 : decode cX12_isSameShape 91 = .ok (.invokevirtual 539, 3) := by decide +kernel
theorem dX12_isSameShape_94 : decode cX12_isSameShape 94 = .ok (.istore 6, 2) := by decide +kernel
theorem dX12_isSameShape_96 : decode cX12_isSameShape 96 = .ok (.goto (-81), 3) := by decide +kernel
theorem dX12_isSameShape_99 : decode cX12_isSameShape 99 = .ok (.iconst 0, 1) := by decide +kernel
theorem dX12_isSameShape_100 : decode cX12_isSameShape 100 = .ok (.ireturn, 1) := by decide +kernel
theorem dX12_isNewShape_0 : decode cX12_isNewShape 0 = .ok (.iconst 0, 1) := by decide +kernel
theorem dX12_isNewShape_1 : decode cX12_isNewShape 1 = .ok (.istore_n 3, 1) := by decide +kernel
theorem dX12_isNewShape_2 : decode cX12_isNewShape 2 = .ok (.iload_n 3, 1) := by decide +kernel
theorem dX12_isNewShape_3 : decode cX12_isNewShape 3 = .ok (.aload_n 0, 1) := by decide +kernel
theorem dX12_isNewShape_4 : decode cX12_isNewShape 4 = .ok (.getfield 336, 3) := by decide +kernel
theorem dX12_isNewShape_7 : decode cX12_isNewShape 7 = .ok (.if_icmp .ge 41, 3) := by decide +kernel
theorem dX12_isNewShape_10 : decode cX12_isNewShape 10 = .ok (.aload_n 0, 1) := by decide +kernel
theorem dX12_isNewShape_11 : decode cX12_isNewShape 11 = .ok (.getfield 148, 3) := by decide +kernel
theorem dX12_isNewShape_14 : decode cX12_isNewShape 14 = .ok (.iload_n 3, 1) := by decide +kernel
theorem dX12_isNewShape_15 : decode cX12_isNewShape 15 = .ok (.laload, 1) := by decide +kernel
theorem dX12_isNewShape_16 : decode cX12_isNewShape 16 = .ok (.invokestatic 362, 3) := by decide +kernel
theorem dX12_isNewShape_19 : decode cX12_isNewShape 19 = .ok (.lload_n 1, 1) := by decide +kernel
theorem dX12_isNewShape_20 : decode cX12_isNewShape 20 = .ok (.invokestatic 362, 3) := by decide +kernel
theorem dX12_isNewShape_23 : decode cX12_isNewShape 23 = .ok (.if_icmp .ne 19, 3) := by decide +kernel
theorem dX12_isNewShape_26 : decode cX12_isNewShape 26 = .ok (.aload_n 0, 1) := by decide +kernel
theorem dX12_isNewShape_27 : decode cX12_isNewShape 27 = .ok (.aload_n 0, 1) := by decide +kernel
theorem dX12_isNewShape_28 : decode cX12_isNewShape 28 = .ok (.getfield 148, 3) := by decide +kernel
theorem dX12_isNewShape_31 : decode cX12_isNewShape 31 = .ok (.iload_n 3, 1) := by decide +kernel
theorem dX12_isNewShape_32 : decode cX12_isNewShape 32 = .ok (.laload, 1) := by decide +kernel
theorem dX12_isNewShape_33 : decode cX12_isNewShape 33 = .ok (.lload_n 1, 1) := by decide +kernel
theorem dX12_isNewShape_34 : decode cX12_isNewShape 34 = .ok (.invokevirtual 541, 3) := by decide +kernel
theorem dX12_isNewShape_37 : decode cX12_isNewShape 37 = .ok (.ifCond .eq 5, 3) := by decide +kernel
theorem dX12_isNewShape_40 : decode cX12_isNewShape 40 = .ok (.iconst 0, 1) := by decide +kernel
theorem dX12_isNewShape_41 : decode cX12_isNewShape 41 = .ok (.ireturn, 1) := by decide +kernel
theorem dX12_isNewShape_42 : decode cX12_isNewShape 42 = .ok (.iinc 3 1, 3) := by decide +kernel
theorem dX12_isNewShape_45 : decode cX12_isNewShape 45 = .ok (.goto (-43), 3) := by decide +kernel
theorem dX12_isNewShape_48 : decode cX12_isNewShape 48 = .ok (.iconst 1, 1) := by decide +kernel
theorem dX12_isNewShape_49 : decode cX12_isNewShape 49 = .ok (.ireturn, 1) := by decide +kernel
theorem dX12_all_0 : decode cX12_all 0 = .ok (.iload_n 1, 1) := by decide +kernel
theorem dX12_all_1 : decode cX12_all 1 = .ok (.i2l, 1) := by decide +kernel
theorem dX12_all_2 : decode cX12_all 2 = .ok (.lconst 0, 1) := by decide +kernel
theorem dX12_all_3 : decode cX12_all 3 = .ok (.ldc2_w 368, 3) := by decide +kernel
theorem dX12_all_6 : decode cX12_all 6 = .ok (.invokestatic 206, 3) := by decide +kernel
theorem dX12_all_9 : decode cX12_all 9 = .ok (.ifCond .eq 10, 3) := by decide +kernel
theorem dX12_all_12 : decode cX12_all 12 = .ok (.aload_n 0, 1) := by decide +kernel
theorem dX12_all_13 : decode cX12_all 13 = .ok (.invokevirtual 545, 3) := by decide +kernel
theorem dX12_all_16 : decode cX12_all 16 = .ok (.ifCond .ne 5, 3) := by decide +kernel
theorem dX12_all_19 : decode cX12_all 19 = .ok (.iconst (-1), 1) := by decide +kernel
theorem dX12_all_20 : decode cX12_all 20 = .ok (.ireturn, 1) := by decide +kernel
theorem dX12_all_21 : decode cX12_all 21 = .ok (.aload_n 0, 1) := by decide +kernel
theorem dX12_all_22 : decode cX12_all 22 = .ok (.iconst 0, 1) := by decide +kernel
theorem dX12_all_23 : decode cX12_all 23 = .ok (.putfield 336, 3) := by decide +kernel
theorem dX12_all_26 : decode cX12_all 26 = .ok (.lconst 0, 1) := by decide +kernel
theorem dX12_all_27 : decode cX12_all 27 = .ok (.lstore_n 3, 1) := by decide +kernel
theorem dX12_all_28 : decode cX12_all 28 = .ok (.lload_n 3, 1) := by decide +kernel
theorem dX12_all_29 : decode cX12_all 29 = .ok (.lconst 1, 1) := by decide +kernel
theorem dX12_all_30 : decode cX12_all 30 = .ok (.aload_n 0, 1) := by decide +kernel
theorem dX12_all_31 : decode cX12_all 31 = .ok (.invokevirtual 355, 3) := by decide +kernel
theorem dX12_all_34 : decode cX12_all 34 = .ok (.lshl, 1) := by decide +kernel
theorem dX12_all_35 : decode cX12_all 35 = .ok (.lcmp, 1) := by decide +kernel
theorem dX12_all_36 : decode cX12_all 36 = .ok (.ifCond .ge 62, 3) := by decide +kernel
theorem dX12_all_39 : decode cX12_all 39 = .ok (.aload_n 0, 1) := by decide +kernel
theorem dX12_all_40 : decode cX12_all 40 = .ok (.lload_n 3, 1) := by decide +kernel
theorem dX12_all_41 : decode cX12_all 41 = .ok (.invokevirtual 370, 3) := by decide +kernel
theorem dX12_all_44 : decode cX12_all 44 = .ok (.ifCond .eq 47, 3) := by decide +kernel
theorem dX12_all_47 : decode cX12_all 47 = .ok (.aload_n 0, 1) := by decide +kernel
theorem dX12_all_48 : decode cX12_all 48 = .ok (.lload_n 3, 1) := by decide +kernel
theorem dX12_all_49 : decode cX12_all 49 = .ok (.iload_n 1, 1) := by decide +kernel
theorem dX12_all_50 : decode cX12_all 50 = .ok (.invokevirtual 496, 3) := by decide +kernel
theorem dX12_all_53 : decode cX12_all 53 = .ok (.ifCond .eq 38, 3) := by decide +kernel
theorem dX12_all_56 : decode cX12_all 56 = .ok (.iload_n 2, 1) := by decide +kernel
theorem dX12_all_57 : decode cX12_all 57 = .ok (.ifCond .eq 14, 3) := by decide +kernel
theorem dX12_all_60 : decode cX12_all 60 = .ok (.aload_n 0, 1) := by decide +kernel
theorem dX12_all_61 : decode cX12_all 61 = .ok (.lload_n 3, 1) := by decide +kernel
theorem dX12_all_62 : decode cX12_all 62 = .ok (.invokevirtual 548, 3) := by decide +kernel
theorem dX12_all_65 : decode cX12_all 65 = .ok (.ifCond .ne 6, 3) := by decide +kernel
theorem dX12_all_68 : decode cX12_all 68 = .ok (.goto 23, 3) := by decide +kernel
theorem dX12_all_71 : decode cX12_all 71 = .ok (.aload_n 0, 1) := by decide +kernel
theorem dX12_all_72 : decode cX12_all 72 = .ok (.getfield 148, 3) := by decide +kernel
theorem dX12_all_75 : decode cX12_all 75 = .ok (.aload_n 0, 1) := by decide +kernel
theorem dX12_all_76 : decode cX12_all 76 = .ok (.getfield 336, 3) := by decide +kernel
theorem dX12_all_79 : decode cX12_all 79 = .ok (.lload_n 3, 1) := by decide +kernel
theorem dX12_all_80 : decode cX12_all 80 = .ok (.lastore, 1) := by decide +kernel
theorem dX12_all_81 : decode cX12_all 81 = .ok (.aload_n 0, 1) := by decide +kernel
theorem dX12_all_82 : decode cX12_all 82 = .ok (.dup, 1) := by decide +kernel
theorem dX12_all_83 : decode cX12_all 83 = .ok (.getfield 336, 3) := by decide +kernel
theorem dX12_all_86 : decode cX12_all 86 = .ok (.iconst 1, 1) := by decide +kernel
theorem dX12_all_87 : decode cX12_all 87 = .ok (.iadd, 1) := by decide +kernel
theorem dX12_all_88 : decode cX12_all 88 = .ok (.putfield 336, 3) := by decide +kernel
theorem dX12_all_91 : decode cX12_all 91 = .ok (.lload_n 3, 1) := by decide +kernel
theorem dX12_all_92 : decode cX12_all 92 = .ok (.lconst 1, 1) := by decide +kernel
theorem dX12_all_93 : decode cX12_all 93 = .ok (.ladd, 1) := by decide +kernel
theorem dX12_all_94 : decode cX12_all 94 = .ok (.lstore_n 3, 1) := by decide +kernel
theorem dX12_all_95 : decode cX12_all 95 = .ok (.goto (-67), 3) := by decide +kernel
theorem dX12_all_98 : decode cX12_all 98 = .ok (.aload_n 0, 1) := by decide +kernel
theorem dX12_all_99 : decode cX12_all 99 = .ok (.getfield 336, 3) := by decide +kernel
theorem dX12_all_102 : decode cX12_all 102 = .ok (.ireturn, 1) := by decide +kernel
theorem dX12_one_0 : decode cX12_one 0 = .ok (.iload_n 1, 1) := by decide +kernel
theorem dX12_one_1 : decode cX12_one 1 = .ok (.ifCond .lt 20, 3) := by decide +kernel
theorem dX12_one_4 : decode cX12_one 4 = .ok (.iload_n 1, 1) := by decide +kernel
theorem dX12_one_5 : decode cX12_one 5 = .ok (.aload_n 0, 1) := by decide +kernel
theorem dX12_one_6 : decode cX12_one 6 = .ok (.getfield 336, 3) := by decide +kernel
theorem dX12_one_9 : decode cX12_one 9 = .ok (.if_icmp .ge 12, 3) := by decide +kernel
theorem dX12_one_12 : decode cX12_one 12 = .ok (.aload_n 0, 1) := by decide +kernel
theorem dX12_one_13 : decode cX12_one 13 = .ok (.getfield 148, 3) := by decide +kernel
theorem dX12_one_16 : decode cX12_one 16 = .ok (.iload_n 1, 1) := by decide +kernel
theorem dX12_one_17 : decode cX12_one 17 = .ok (.laload, 1) := by decide +kernel
theorem dX12_one_18 : decode cX12_one 18 = .ok (.goto 6, 3) := by decide +kernel
theorem dX12_one_21 : decode cX12_one 21 = .ok (.ldc2_w 115, 3) := by decide +kernel
theorem dX12_one_24 : decode cX12_one 24 = .ok (.lreturn, 1) := by decide +kernel
theorem dX12_best_0 : decode cX12_best 0 = .ok (.aload_n 0, 1) := by decide +kernel
theorem dX12_best_1 : decode cX12_best 1 = .ok (.invokevirtual 545, 3) := by decide +kernel
theorem dX12_best_4 : decode cX12_best 4 = .ok (.ifCond .ne 7, 3) := by decide +kernel
theorem dX12_best_7 : decode cX12_best 7 = .ok (.ldc2_w 115, 3) := by decide +kernel
theorem dX12_best_10 : decode cX12_best 10 = .ok (.lreturn, 1) := by decide +kernel
theorem dX12_best_11 : decode cX12_best 11 = .ok (.ldc2_w 115, 3) := by decide +kernel
theorem dX12_best_14 : decode cX12_best 14 = .ok (.lstore_n 1, 1) := by decide +kernel
theorem dX12_best_15 : decode cX12_best 15 = .ok (.lconst 0, 1) := by decide +kernel
theorem dX12_best_16 : decode cX12_best 16 = .ok (.lstore_n 3, 1) := by decide +kernel
theorem dX12_best_17 : decode cX12_best 17 = .ok (.lconst 0, 1) := by decide +kernel
theorem dX12_best_18 : decode cX12_best 18 = .ok (.lstore 5, 2) := by decide +kernel
theorem dX12_best_20 : decode cX12_best 20 = .ok (.lload 5, 2) := by decide +kernel
theorem dX12_best_22 : decode cX12_best 22 = .ok (.lconst 1, 1) := by decide +kernel
theorem dX12_best_23 : decode cX12_best 23 = .ok (.aload_n 0, 1) := by decide +kernel
theorem dX12_best_24 : decode cX12_best 24 = .ok (.invokevirtual 355, 3) := by decide +kernel
theorem dX12_best_27 : decode cX12_best 27 = .ok (.lshl, 1) := by decide +kernel
theorem dX12_best_28 : decode cX12_best 28 = .ok (.lcmp, 1) := by decide +kernel
theorem dX12_best_29 : decode cX12_best 29 = .ok (.ifCond .ge 56, 3) := by decide +kernel
theorem dX12_best_32 : decode cX12_best 32 = .ok (.aload_n 0, 1) := by decide +kernel
theorem dX12_best_33 : decode cX12_best 33 = .ok (.lload 5, 2) := by decide +kernel
theorem dX12_best_35 : decode cX12_best 35 = .ok (.invokevirtual 370, 3) := by decide +kernel
theorem dX12_best_38 : decode cX12_best 38 = .ok (.ifCond .ne 6, 3) := by decide +kernel
theorem dX12_best_41 : decode cX12_best 41 = .ok (.goto 35, 3) := by decide +kernel
theorem dX12_best_44 : decode cX12_best 44 = .ok (.aload_n 0, 1) := by decide +kernel
theorem dX12_best_45 : decode cX12_best 45 = .ok (.lload 5, 2) := by decide +kernel
theorem dX12_best_47 : decode cX12_best 47 = .ok (.invokevirtual 438, 3) := by decide +kernel
theorem dX12_best_50 : decode cX12_best 50 = .ok (.lstore 7, 2) := by decide +kernel
theorem dX12_best_52 : decode cX12_best 52 = .ok (.lload_n 1, 1) := by decide +kernel
theorem dX12_best_53 : decode cX12_best 53 = .ok (.ldc2_w 115, 3) := by decide +kernel
theorem dX12_best_56 : decode cX12_best 56 = .ok (.lcmp, 1) := by decide +kernel
theorem dX12_best_57 : decode cX12_best 57 = .ok (.ifCond .eq 13, 3) := by decide +kernel
theorem dX12_best_60 : decode cX12_best 60 = .ok (.lload 7, 2) := by decide +kernel
theorem dX12_best_62 : decode cX12_best 62 = .ok (.lload_n 3, 1) := by decide +kernel
theorem dX12_best_63 : decode cX12_best 63 = .ok (.lcmp, 1) := by decide +kernel
theorem dX12_best_64 : decode cX12_best 64 = .ok (.ifCond .gt 6, 3) := by decide +kernel
theorem dX12_best_67 : decode cX12_best 67 = .ok (.goto 9, 3) := by decide +kernel
theorem dX12_best_70 : decode cX12_best 70 = .ok (.lload 5, 2) := by decide +kernel
theorem dX12_best_72 : decode cX12_best 72 = .ok (.lstore_n 1, 1) := by decide +kernel
theorem dX12_best_73 : decode cX12_best 73 = .ok (.lload 7, 2) := by decide +kernel
theorem dX12_best_75 : decode cX12_best 75 = .ok (.lstore_n 3, 1) := by decide +kernel
theorem dX12_best_76 : decode cX12_best 76 = .ok (.lload 5, 2) := by decide +kernel
theorem dX12_best_78 : decode cX12_best 78 = .ok (.lconst 1, 1) := by decide +kernel
theorem dX12_best_79 : decode cX12_best 79 = .ok (.ladd, 1) := by decide +kernel
theorem dX12_best_80 : decode cX12_best 80 = .ok (.lstore 5, 2) := by decide +kernel
theorem dX12_best_82 : decode cX12_best 82 = .ok (.goto (-62), 3) := by decide +kernel
theorem dX12_best_85 : decode cX12_best 85 = .ok (.lload_n 1, 1) := by decide +kernel
theorem dX12_best_86 : decode cX12_best 86 = .ok (.lreturn, 1) := by decide +kernel
theorem dX12_loss_0 : decode cX12_loss 0 = .ok (.iload_n 1, 1) := by decide +kernel
theorem dX12_loss_1 : decode cX12_loss 1 = .ok (.i2l, 1) := by decide +kernel
theorem dX12_loss_2 : decode cX12_loss 2 = .ok (.lconst 0, 1) := by decide +kernel
theorem dX12_loss_3 : decode cX12_loss 3 = .ok (.ldc2_w 368, 3) := by decide +kernel
theorem dX12_loss_6 : decode cX12_loss 6 = .ok (.invokestatic 206, 3) := by decide +kernel
theorem dX12_loss_9 : decode cX12_loss 9 = .ok (.ifCond .eq 10, 3) := by decide +kernel
theorem dX12_loss_12 : decode cX12_loss 12 = .ok (.aload_n 0, 1) := by decide +kernel
theorem dX12_loss_13 : decode cX12_loss 13 = .ok (.invokevirtual 545, 3) := by decide +kernel
theorem dX12_loss_16 : decode cX12_loss 16 = .ok (.ifCond .ne 7, 3) := by decide +kernel
theorem dX12_loss_19 : decode cX12_loss 19 = .ok (.ldc2_w 115, 3) := by decide +kernel
theorem dX12_loss_22 : decode cX12_loss 22 = .ok (.lreturn, 1) := by decide +kernel
theorem dX12_loss_23 : decode cX12_loss 23 = .ok (.iconst 0, 1) := by decide +kernel
theorem dX12_loss_24 : decode cX12_loss 24 = .ok (.istore_n 3, 1) := by decide +kernel
theorem dX12_loss_25 : decode cX12_loss 25 = .ok (.lconst 0, 1) := by decide +kernel
theorem dX12_loss_26 : decode cX12_loss 26 = .ok (.lstore 4, 2) := by decide +kernel
theorem dX12_loss_28 : decode cX12_loss 28 = .ok (.lconst 0, 1) := by decide +kernel
theorem dX12_loss_29 : decode cX12_loss 29 = .ok (.lstore 6, 2) := by decide +kernel
theorem dX12_loss_31 : decode cX12_loss 31 = .ok (.lload 6, 2) := by decide +kernel
theorem dX12_loss_33 : decode cX12_loss 33 = .ok (.lconst 1, 1) := by decide +kernel
theorem dX12_loss_34 : decode cX12_loss 34 = .ok (.aload_n 0, 1) := by decide +kernel
theorem dX12_loss_35 : decode cX12_loss 35 = .ok (.invokevirtual 355, 3) := by decide +kernel
theorem dX12_loss_38 : decode cX12_loss 38 = .ok (.lshl, 1) := by decide +kernel
theorem dX12_loss_39 : decode cX12_loss 39 = .ok (.lcmp, 1) := by decide +kernel
theorem dX12_loss_40 : decode cX12_loss 40 = .ok (.ifCond .ge 78, 3) := by decide +kernel
theorem dX12_loss_43 : decode cX12_loss 43 = .ok (.aload_n 0, 1) := by decide +kernel
theorem dX12_loss_44 : decode cX12_loss 44 = .ok (.lload 6, 2) := by decide +kernel
theorem dX12_loss_46 : decode cX12_loss 46 = .ok (.invokevirtual 370, 3) := by decide +kernel
theorem dX12_loss_49 : decode cX12_loss 49 = .ok (.ifCond .eq 60, 3) := by decide +kernel
theorem dX12_loss_52 : decode cX12_loss 52 = .ok (.aload_n 0, 1) := by decide +kernel
theorem dX12_loss_53 : decode cX12_loss 53 = .ok (.lload 6, 2) := by decide +kernel
theorem dX12_loss_55 : decode cX12_loss 55 = .ok (.iload_n 1, 1) := by decide +kernel
theorem dX12_loss_56 : decode cX12_loss 56 = .ok (.invokevirtual 496, 3) := by decide +kernel
theorem dX12_loss_59 : decode cX12_loss 59 = .ok (.ifCond .ne 6, 3) := by decide +kernel
theorem dX12_loss_62 : decode cX12_loss 62 = .ok (.goto 47, 3) := by decide +kernel
theorem dX12_loss_65 : decode cX12_loss 65 = .ok (.aload_n 0, 1) := by decide +kernel
theorem dX12_loss_66 : decode cX12_loss 66 = .ok (.lload 6, 2) := by decide +kernel
theorem dX12_loss_68 : decode cX12_loss 68 = .ok (.invokevirtual 438, 3) := by decide +kernel
theorem dX12_loss_71 : decode cX12_loss 71 = .ok (.lstore 8, 2) := by decide +kernel
theorem dX12_loss_73 : decode cX12_loss 73 = .ok (.iload_n 3, 1) := by decide +kernel
theorem dX12_loss_74 : decode cX12_loss 74 = .ok (.ifCond .eq 29, 3) := by decide +kernel
theorem dX12_loss_77 : decode cX12_loss 77 = .ok (.iload_n 2, 1) := by decide +kernel
theorem dX12_loss_78 : decode cX12_loss 78 = .ok (.ifCond .eq 14, 3) := by decide +kernel
theorem dX12_loss_81 : decode cX12_loss 81 = .ok (.lload 8, 2) := by decide +kernel
theorem dX12_loss_83 : decode cX12_loss 83 = .ok (.lload 4, 2) := by decide +kernel
theorem dX12_loss_85 : decode cX12_loss 85 = .ok (.lcmp, 1) := by decide +kernel
theorem dX12_loss_86 : decode cX12_loss 86 = .ok (.ifCond .lt 17, 3) := by decide +kernel
theorem dX12_loss_89 : decode cX12_loss 89 = .ok (.goto 20, 3) := by decide +kernel
theorem dX12_loss_92 : decode cX12_loss 92 = .ok (.lload 8, 2) := by decide +kernel
theorem dX12_loss_94 : decode cX12_loss 94 = .ok (.lload 4, 2) := by decide +kernel
theorem dX12_loss_96 : decode cX12_loss 96 = .ok (.lcmp, 1) := by decide +kernel
theorem dX12_loss_97 : decode cX12_loss 97 = .ok (.ifCond .gt 6, 3) := by decide +kernel
theorem dX12_loss_100 : decode cX12_loss 100 = .ok (.goto 9, 3) := by decide +kernel
theorem dX12_loss_103 : decode cX12_loss 103 = .ok (.iconst 1, 1) := by decide +kernel
theorem dX12_loss_104 : decode cX12_loss 104 = .ok (.istore_n 3, 1) := by decide +kernel
theorem dX12_loss_105 : decode cX12_loss 105 = .ok (.lload 8, 2) := by decide +kernel
theorem dX12_loss_107 : decode cX12_loss 107 = .ok (.lstore 4, 2) := by decide +kernel
theorem dX12_loss_109 : decode cX12_loss 109 = .ok (.lload 6, 2) := by decide +kernel
theorem dX12_loss_111 : decode cX12_loss 111 = .ok (.lconst 1, 1) := by decide +kernel
theorem dX12_loss_112 : decode cX12_loss 112 = .ok (.ladd, 1) := by decide +kernel
theorem dX12_loss_113 : decode cX12_loss 113 = .ok (.lstore 6, 2) := by decide +kernel
theorem dX12_loss_115 : decode cX12_loss 115 = .ok (.goto (-84), 3) := by decide +kernel
theorem dX12_loss_118 : decode cX12_loss 118 = .ok (.iload_n 3, 1) := by decide +kernel
theorem dX12_loss_119 : decode cX12_loss 119 = .ok (.ifCond .eq 17, 3) := by decide +kernel
theorem dX12_loss_122 : decode cX12_loss 122 = .ok (.aload_n 0, 1) := by decide +kernel
theorem dX12_loss_123 : decode cX12_loss 123 = .ok (.aload_n 0, 1) := by decide +kernel
theorem dX12_loss_124 : decode cX12_loss 124 = .ok (.invokevirtual 551, 3) := by decide +kernel
theorem dX12_loss_127 : decode cX12_loss 127 = .ok (.invokevirtual 438, 3) := by decide +kernel
theorem dX12_loss_130 : decode cX12_loss 130 = .ok (.lload 4, 2) := by decide +kernel
theorem dX12_loss_132 : decode cX12_loss 132 = .ok (.lsub, 1) := by decide +kernel
theorem dX12_loss_133 : decode cX12_loss 133 = .ok (.goto 6, 3) := by decide +kernel
theorem dX12_loss_136 : decode cX12_loss 136 = .ok (.ldc2_w 115, 3) := by decide +kernel
theorem dX12_loss_139 : decode cX12_loss 139 = .ok (.lreturn, 1) := by decide +kernel
theorem dX12_netOf_0 : decode cX12_netOf 0 = .ok (.lconst 0, 1) := by decide +kernel
theorem dX12_netOf_1 : decode cX12_netOf 1 = .ok (.lstore_n 2, 1) := by decide +kernel
theorem dX12_netOf_2 : decode cX12_netOf 2 = .ok (.iconst 0, 1) := by decide +kernel
theorem dX12_netOf_3 : decode cX12_netOf 3 = .ok (.istore 4, 2) := by decide +kernel
theorem dX12_netOf_5 : decode cX12_netOf 5 = .ok (.iconst 0, 1) := by decide +kernel
theorem dX12_netOf_6 : decode cX12_netOf 6 = .ok (.istore 5, 2) := by decide +kernel
theorem dX12_netOf_8 : decode cX12_netOf 8 = .ok (.iload 5, 2) := by decide +kernel
theorem dX12_netOf_10 : decode cX12_netOf 10 = .ok (.iload_n 1, 1) := by decide +kernel
theorem dX12_netOf_11 : decode cX12_netOf 11 = .ok (.if_icmp .ge 89, 3) := by decide +kernel
theorem dX12_netOf_14 : decode cX12_netOf 14 = .ok (.aload_n 0, 1) := by decide +kernel
theorem dX12_netOf_15 : decode cX12_netOf 15 = .ok (.getfield 151, 3) := by decide +kernel
theorem dX12_netOf_18 : decode cX12_netOf 18 = .ok (.iload 5, 2) := by decide +kernel
theorem dX12_netOf_20 : decode cX12_netOf 20 = .ok (.iaload, 1) := by decide +kernel
theorem dX12_netOf_21 : decode cX12_netOf 21 = .ok (.istore 6, 2) := by decide +kernel
theorem dX12_netOf_23 : decode cX12_netOf 23 = .ok (.iconst 0, 1) := by decide +kernel
theorem dX12_netOf_24 : decode cX12_netOf 24 = .ok (.istore 7, 2) := by decide +kernel
theorem dX12_netOf_26 : decode cX12_netOf 26 = .ok (.iload 7, 2) := by decide +kernel
theorem dX12_netOf_28 : decode cX12_netOf 28 = .ok (.aload_n 0, 1) := by decide +kernel
theorem dX12_netOf_29 : decode cX12_netOf 29 = .ok (.invokevirtual 345, 3) := by decide +kernel
theorem dX12_netOf_32 : decode cX12_netOf 32 = .ok (.if_icmp .ge 53, 3) := by decide +kernel
theorem dX12_netOf_35 : decode cX12_netOf 35 = .ok (.iload 4, 2) := by decide +kernel
theorem dX12_netOf_37 : decode cX12_netOf 37 = .ok (.iload 7, 2) := by decide +kernel
theorem dX12_netOf_39 : decode cX12_netOf 39 = .ok (.ishr, 1) := by decide +kernel
theorem dX12_netOf_40 : decode cX12_netOf 40 = .ok (.iconst 1, 1) := by decide +kernel
theorem dX12_netOf_41 : decode cX12_netOf 41 = .ok (.iand, 1) := by decide +kernel
theorem dX12_netOf_42 : decode cX12_netOf 42 = .ok (.ifCond .ne 6, 3) := by decide +kernel
theorem dX12_netOf_45 : decode cX12_netOf 45 = .ok (.goto 34, 3) := by decide +kernel
theorem dX12_netOf_48 : decode cX12_netOf 48 = .ok (.aload_n 0, 1) := by decide +kernel
theorem dX12_netOf_49 : decode cX12_netOf 49 = .ok (.lload_n 2, 1) := by decide +kernel
theorem dX12_netOf_50 : decode cX12_netOf 50 = .ok (.invokevirtual 475, 3) := by decide +kernel
theorem dX12_netOf_53 : decode cX12_netOf 53 = .ok (.aload_n 0, 1) := by decide +kernel
theorem dX12_netOf_54 : decode cX12_netOf 54 = .ok (.lload_n 2, 1) := by decide +kernel
theorem dX12_netOf_55 : decode cX12_netOf 55 = .ok (.iload 6, 2) := by decide +kernel
theorem dX12_netOf_57 : decode cX12_netOf 57 = .ok (.iload 7, 2) := by decide +kernel
theorem dX12_netOf_59 : decode cX12_netOf 59 = .ok (.invokestatic 308, 3) := by decide +kernel
theorem dX12_netOf_62 : decode cX12_netOf 62 = .ok (.invokevirtual 465, 3) := by decide +kernel
theorem dX12_netOf_65 : decode cX12_netOf 65 = .ok (.ifCond .eq 14, 3) := by decide +kernel
theorem dX12_netOf_68 : decode cX12_netOf 68 = .ok (.lload_n 2, 1) := by decide +kernel
theorem dX12_netOf_69 : decode cX12_netOf 69 = .ok (.aload_n 0, 1) := by decide +kernel
theorem dX12_netOf_70 : decode cX12_netOf 70 = .ok (.iload 6, 2) := by decide +kernel
theorem dX12_netOf_72 : decode cX12_netOf 72 = .ok (.iload 7, 2) := by decide +kernel
theorem dX12_netOf_74 : decode cX12_netOf 74 = .ok (.invokevirtual 374, 3) := by decide +kernel
theorem dX12_netOf_77 : decode cX12_netOf 77 = .ok (.lor, 1) := by decide +kernel
theorem dX12_netOf_78 : decode cX12_netOf 78 = .ok (.lstore_n 2, 1) := by decide +kernel
theorem dX12_netOf_79 : decode cX12_netOf 79 = .ok (.iinc 7 1, 3) := by decide +kernel
theorem dX12_netOf_82 : decode cX12_netOf 82 = .ok (.goto (-56), 3) := by decide +kernel
theorem dX12_netOf_85 : decode cX12_netOf 85 = .ok (.iload 4, 2) := by decide +kernel
theorem dX12_netOf_87 : decode cX12_netOf 87 = .ok (.iconst 1, 1) := by decide +kernel
theorem dX12_netOf_88 : decode cX12_netOf 88 = .ok (.iload 6, 2) := by decide +kernel
theorem dX12_netOf_90 : decode cX12_netOf 90 = .ok (.ishl, 1) := by decide +kernel
theorem dX12_netOf_91 : decode cX12_netOf 91 = .ok (.ior, 1) := by decide +kernel
theorem dX12_netOf_92 : decode cX12_netOf 92 = .ok (.istore 4, 2) := by decide +kernel
theorem dX12_netOf_94 : decode cX12_netOf 94 = .ok (.iinc 5 1, 3) := by decide +kernel
theorem dX12_netOf_97 : decode cX12_netOf 97 = .ok (.goto (-89), 3) := by decide +kernel
theorem dX12_netOf_100 : decode cX12_netOf 100 = .ok (.lload_n 2, 1) := by decide +kernel
theorem dX12_netOf_101 : decode cX12_netOf 101 = .ok (.lreturn, 1) := by decide +kernel
theorem dX12_coming_0 : decode cX12_coming 0 = .ok (.aload_n 0, 1) := by decide +kernel
theorem dX12_coming_1 : decode cX12_coming 1 = .ok (.invokevirtual 545, 3) := by decide +kernel
theorem dX12_coming_4 : decode cX12_coming 4 = .ok (.ifCond .ne 5, 3) := by decide +kernel
theorem dX12_coming_7 : decode cX12_coming 7 = .ok (.iconst (-1), 1) := by decide +kernel
theorem dX12_coming_8 : decode cX12_coming 8 = .ok (.ireturn, 1) := by decide +kernel
theorem dX12_coming_9 : decode cX12_coming 9 = .ok (.aload_n 0, 1) := by decide +kernel
theorem dX12_coming_10 : decode cX12_coming 10 = .ok (.iconst 0, 1) := by decide +kernel
theorem dX12_coming_11 : decode cX12_coming 11 = .ok (.putfield 339, 3) := by decide +kernel
theorem dX12_coming_14 : decode cX12_coming 14 = .ok (.aload_n 0, 1) := by decide +kernel
theorem dX12_coming_15 : decode cX12_coming 15 = .ok (.aload_n 0, 1) := by decide +kernel
theorem dX12_coming_16 : decode cX12_coming 16 = .ok (.invokevirtual 345, 3) := by decide +kernel
theorem dX12_coming_19 : decode cX12_coming 19 = .ok (.invokevirtual 536, 3) := by decide +kernel
theorem dX12_coming_22 : decode cX12_coming 22 = .ok (.iconst 1, 1) := by decide +kernel
theorem dX12_coming_23 : decode cX12_coming 23 = .ok (.istore_n 1, 1) := by decide +kernel
theorem dX12_coming_24 : decode cX12_coming 24 = .ok (.iload_n 1, 1) := by decide +kernel
theorem dX12_coming_25 : decode cX12_coming 25 = .ok (.ifCond .eq 27, 3) := by decide +kernel
theorem dX12_coming_28 : decode cX12_coming 28 = .ok (.aload_n 0, 1) := by decide +kernel
theorem dX12_coming_29 : decode cX12_coming 29 = .ok (.aload_n 0, 1) := by decide +kernel
theorem dX12_coming_30 : decode cX12_coming 30 = .ok (.aload_n 0, 1) := by decide +kernel
theorem dX12_coming_31 : decode cX12_coming 31 = .ok (.invokevirtual 345, 3) := by decide +kernel
theorem dX12_coming_34 : decode cX12_coming 34 = .ok (.invokevirtual 554, 3) := by decide +kernel
theorem dX12_coming_37 : decode cX12_coming 37 = .ok (.invokevirtual 557, 3) := by decide +kernel
theorem dX12_coming_40 : decode cX12_coming 40 = .ok (.aload_n 0, 1) := by decide +kernel
theorem dX12_coming_41 : decode cX12_coming 41 = .ok (.aload_n 0, 1) := by decide +kernel
theorem dX12_coming_42 : decode cX12_coming 42 = .ok (.invokevirtual 345, 3) := by decide +kernel
theorem dX12_coming_45 : decode cX12_coming 45 = .ok (.invokevirtual 539, 3) := by decide +kernel
theorem dX12_coming_48 : decode cX12_coming 48 = .ok (.istore_n 1, 1) := by decide +kernel
theorem dX12_coming_49 : decode cX12_coming 49 = .ok (.goto (-25), 3) := by decide +kernel
theorem dX12_coming_52 : decode cX12_coming 52 = .ok (.aload_n 0, 1) := by decide +kernel
theorem dX12_coming_53 : decode cX12_coming 53 = .ok (.getfield 339, 3) := by decide +kernel
theorem dX12_coming_56 : decode cX12_coming 56 = .ok (.ireturn, 1) := by decide +kernel
theorem dX12_comesNet_0 : decode cX12_comesNet 0 = .ok (.iconst 0, 1) := by decide +kernel
theorem dX12_comesNet_1 : decode cX12_comesNet 1 = .ok (.istore_n 3, 1) := by decide +kernel
theorem dX12_comesNet_2 : decode cX12_comesNet 2 = .ok (.iload_n 3, 1) := by decide +kernel
theorem dX12_comesNet_3 : decode cX12_comesNet 3 = .ok (.aload_n 0, 1) := by decide +kernel
theorem dX12_comesNet_4 : decode cX12_comesNet 4 = .ok (.getfield 339, 3) := by decide +kernel
theorem dX12_comesNet_7 : decode cX12_comesNet 7 = .ok (.if_icmp .ge 20, 3) := by decide +kernel
theorem dX12_comesNet_10 : decode cX12_comesNet 10 = .ok (.aload_n 0, 1) := by decide +kernel
theorem dX12_comesNet_11 : decode cX12_comesNet 11 = .ok (.getfield 154, 3) := by decide +kernel
theorem dX12_comesNet_14 : decode cX12_comesNet 14 = .ok (.iload_n 3, 1) := by decide +kernel
theorem dX12_comesNet_15 : decode cX12_comesNet 15 = .ok (.laload, 1) := by decide +kernel
theorem dX12_comesNet_16 : decode cX12_comesNet 16 = .ok (.lload_n 1, 1) := by decide +kernel
theorem dX12_comesNet_17 : decode cX12_comesNet 17 = .ok (.lcmp, 1) := by decide +kernel
theorem dX12_comesNet_18 : decode cX12_comesNet 18 = .ok (.ifCond .ge 9, 3) := by decide +kernel
theorem dX12_comesNet_21 : decode cX12_comesNet 21 = .ok (.iinc 3 1, 3) := by decide +kernel
theorem dX12_comesNet_24 : decode cX12_comesNet 24 = .ok (.goto (-22), 3) := by decide +kernel
theorem dX12_comesNet_27 : decode cX12_comesNet 27 = .ok (.iload_n 3, 1) := by decide +kernel
theorem dX12_comesNet_28 : decode cX12_comesNet 28 = .ok (.aload_n 0, 1) := by decide +kernel
theorem dX12_comesNet_29 : decode cX12_comesNet 29 = .ok (.getfield 339, 3) := by decide +kernel
theorem dX12_comesNet_32 : decode cX12_comesNet 32 = .ok (.if_icmp .ge 25, 3) := by decide +kernel
theorem dX12_comesNet_35 : decode cX12_comesNet 35 = .ok (.aload_n 0, 1) := by decide +kernel
theorem dX12_comesNet_36 : decode cX12_comesNet 36 = .ok (.getfield 154, 3) := by decide +kernel
theorem dX12_comesNet_39 : decode cX12_comesNet 39 = .ok (.iload_n 3, 1) := by decide +kernel
theorem dX12_comesNet_40 : decode cX12_comesNet 40 = .ok (.laload, 1) := by decide +kernel
theorem dX12_comesNet_41 : decode cX12_comesNet 41 = .ok (.lload_n 1, 1) := by decide +kernel
theorem dX12_comesNet_42 : decode cX12_comesNet 42 = .ok (.lcmp, 1) := by decide +kernel
theorem dX12_comesNet_43 : decode cX12_comesNet 43 = .ok (.ifCond .ne 14, 3) := by decide +kernel
theorem dX12_comesNet_46 : decode cX12_comesNet 46 = .ok (.aload_n 0, 1) := by decide +kernel
theorem dX12_comesNet_47 : decode cX12_comesNet 47 = .ok (.getfield 157, 3) := by decide +kernel
theorem dX12_comesNet_50 : decode cX12_comesNet 50 = .ok (.iload_n 3, 1) := by decide +kernel
theorem dX12_comesNet_51 : decode cX12_comesNet 51 = .ok (.dup2, 1) := by decide +kernel
theorem dX12_comesNet_52 : decode cX12_comesNet 52 = .ok (.iaload, 1) := by decide +kernel
theorem dX12_comesNet_53 : decode cX12_comesNet 53 = .ok (.iconst 1, 1) := by decide +kernel
theorem dX12_comesNet_54 : decode cX12_comesNet 54 = .ok (.iadd, 1) := by decide +kernel
theorem dX12_comesNet_55 : decode cX12_comesNet 55 = .ok (.iastore, 1) := by decide +kernel
theorem dX12_comesNet_56 : decode cX12_comesNet 56 = .ok (.return_, 1) := by decide +kernel
theorem dX12_comesNet_57 : decode cX12_comesNet 57 = .ok (.aload_n 0, 1) := by decide +kernel
theorem dX12_comesNet_58 : decode cX12_comesNet 58 = .ok (.getfield 339, 3) := by decide +kernel
theorem dX12_comesNet_61 : decode cX12_comesNet 61 = .ok (.istore 4, 2) := by decide +kernel
theorem dX12_comesNet_63 : decode cX12_comesNet 63 = .ok (.iload 4, 2) := by decide +kernel
theorem dX12_comesNet_65 : decode cX12_comesNet 65 = .ok (.iload_n 3, 1) := by decide +kernel
theorem dX12_comesNet_66 : decode cX12_comesNet 66 = .ok (.if_icmp .le 41, 3) := by decide +kernel
theorem dX12_comesNet_69 : decode cX12_comesNet 69 = .ok (.aload_n 0, 1) := by decide +kernel
theorem dX12_comesNet_70 : decode cX12_comesNet 70 = .ok (.getfield 154, 3) := by decide +kernel
theorem dX12_comesNet_73 : decode cX12_comesNet 73 = .ok (.iload 4, 2) := by decide +kernel
theorem dX12_comesNet_75 : decode cX12_comesNet 75 = .ok (.aload_n 0, 1) := by decide +kernel
theorem dX12_comesNet_76 : decode cX12_comesNet 76 = .ok (.getfield 154, 3) := by decide +kernel
theorem dX12_comesNet_79 : decode cX12_comesNet 79 = .ok (.iload 4, 2) := by decide +kernel
theorem dX12_comesNet_81 : decode cX12_comesNet 81 = .ok (.iconst 1, 1) := by decide +kernel
theorem dX12_comesNet_82 : decode cX12_comesNet 82 = .ok (.isub, 1) := by decide +kernel
theorem dX12_comesNet_83 : decode cX12_comesNet 83 = .ok (.laload, 1) := by decide +kernel
theorem dX12_comesNet_84 : decode cX12_comesNet 84 = .ok (.lastore, 1) := by decide +kernel
theorem dX12_comesNet_85 : decode cX12_comesNet 85 = .ok (.aload_n 0, 1) := by decide +kernel
theorem dX12_comesNet_86 : decode cX12_comesNet 86 = .ok (.getfield 157, 3) := by decide +kernel
theorem dX12_comesNet_89 : decode cX12_comesNet 89 = .ok (.iload 4, 2) := by decide +kernel
theorem dX12_comesNet_91 : decode cX12_comesNet 91 = .ok (.aload_n 0, 1) := by decide +kernel
theorem dX12_comesNet_92 : decode cX12_comesNet 92 = .ok (.getfield 157, 3) := by decide +kernel
theorem dX12_comesNet_95 : decode cX12_comesNet 95 = .ok (.iload 4, 2) := by decide +kernel
theorem dX12_comesNet_97 : decode cX12_comesNet 97 = .ok (.iconst 1, 1) := by decide +kernel
theorem dX12_comesNet_98 : decode cX12_comesNet 98 = .ok (.isub, 1) := by decide +kernel
theorem dX12_comesNet_99 : decode cX12_comesNet 99 = .ok (.iaload, 1) := by decide +kernel
theorem dX12_comesNet_100 : decode cX12_comesNet 100 = .ok (.iastore, 1) := by decide +kernel
theorem dX12_comesNet_101 : decode cX12_comesNet 101 = .ok (.iinc 4 (-1), 3) := by decide +kernel
theorem dX12_comesNet_104 : decode cX12_comesNet 104 = .ok (.goto (-41), 3) := by decide +kernel
theorem dX12_comesNet_107 : decode cX12_comesNet 107 = .ok (.aload_n 0, 1) := by decide +kernel
theorem dX12_comesNet_108 : decode cX12_comesNet 108 = .ok (.getfield 154, 3) := by decide +kernel
theorem dX12_comesNet_111 : decode cX12_comesNet 111 = .ok (.iload_n 3, 1) := by decide +kernel
theorem dX12_comesNet_112 : decode cX12_comesNet 112 = .ok (.lload_n 1, 1) := by decide +kernel
theorem dX12_comesNet_113 : decode cX12_comesNet 113 = .ok (.lastore, 1) := by decide +kernel
theorem dX12_comesNet_114 : decode cX12_comesNet 114 = .ok (.aload_n 0, 1) := by decide +kernel
theorem dX12_comesNet_115 : decode cX12_comesNet 115 = .ok (.getfield 157, 3) := by decide +kernel
theorem dX12_comesNet_118 : decode cX12_comesNet 118 = .ok (.iload_n 3, 1) := by decide +kernel
theorem dX12_comesNet_119 : decode cX12_comesNet 119 = .ok (.iconst 1, 1) := by decide +kernel
theorem dX12_comesNet_120 : decode cX12_comesNet 120 = .ok (.iastore, 1) := by decide +kernel
theorem dX12_comesNet_121 : decode cX12_comesNet 121 = .ok (.aload_n 0, 1) := by decide +kernel
theorem dX12_comesNet_122 : decode cX12_comesNet 122 = .ok (.dup, 1) := by decide +kernel
theorem dX12_comesNet_123 : decode cX12_comesNet 123 = .ok (.getfield 339, 3) := by decide +kernel
theorem dX12_comesNet_126 : decode cX12_comesNet 126 = .ok (.iconst 1, 1) := by decide +kernel
theorem dX12_comesNet_127 : decode cX12_comesNet 127 = .ok (.iadd, 1) := by decide +kernel
theorem dX12_comesNet_128 : decode cX12_comesNet 128 = .ok (.putfield 339, 3) := by decide +kernel
theorem dX12_comesNet_131 : decode cX12_comesNet 131 = .ok (.return_, 1) := by decide +kernel
theorem dX12_comes_0 : decode cX12_comes 0 = .ok (.iload_n 1, 1) := by decide +kernel
theorem dX12_comes_1 : decode cX12_comes 1 = .ok (.ifCond .lt 11, 3) := by decide +kernel
theorem dX12_comes_4 : decode cX12_comes 4 = .ok (.iload_n 1, 1) := by decide +kernel
theorem dX12_comes_5 : decode cX12_comes 5 = .ok (.aload_n 0, 1) := by decide +kernel
theorem dX12_comes_6 : decode cX12_comes 6 = .ok (.getfield 339, 3) := by decide +kernel
theorem dX12_comes_9 : decode cX12_comes 9 = .ok (.if_icmp .lt 9, 3) := by decide +kernel
theorem dX12_comes_12 : decode cX12_comes 12 = .ok (.ldc2_w 115, 3) := by decide +kernel
theorem dX12_comes_15 : decode cX12_comes 15 = .ok (.goto 23, 3) := by decide +kernel
theorem dX12_comes_18 : decode cX12_comes 18 = .ok (.iload_n 2, 1) := by decide +kernel
theorem dX12_comes_19 : decode cX12_comes 19 = .ok (.ifCond .eq 13, 3) := by decide +kernel
theorem dX12_comes_22 : decode cX12_comes 22 = .ok (.aload_n 0, 1) := by decide +kernel
theorem dX12_comes_23 : decode cX12_comes 23 = .ok (.getfield 157, 3) := by decide +kernel
theorem dX12_comes_26 : decode cX12_comes 26 = .ok (.iload_n 1, 1) := by decide +kernel
theorem dX12_comes_27 : decode cX12_comes 27 = .ok (.iaload, 1) := by decide +kernel
theorem dX12_comes_28 : decode cX12_comes 28 = .ok (.i2l, 1) := by decide +kernel
theorem dX12_comes_29 : decode cX12_comes 29 = .ok (.goto 9, 3) := by decide +kernel
theorem dX12_comes_32 : decode cX12_comes 32 = .ok (.aload_n 0, 1) := by decide +kernel
theorem dX12_comes_33 : decode cX12_comes 33 = .ok (.getfield 154, 3) := by decide +kernel
theorem dX12_comes_36 : decode cX12_comes 36 = .ok (.iload_n 1, 1) := by decide +kernel
theorem dX12_comes_37 : decode cX12_comes 37 = .ok (.laload, 1) := by decide +kernel
theorem dX12_comes_38 : decode cX12_comes 38 = .ok (.lreturn, 1) := by decide +kernel
theorem dX12_needOf_0 : decode cX12_needOf 0 = .ok (.aload_n 0, 1) := by decide +kernel
theorem dX12_needOf_1 : decode cX12_needOf 1 = .ok (.aload_n 0, 1) := by decide +kernel
theorem dX12_needOf_2 : decode cX12_needOf 2 = .ok (.getfield 323, 3) := by decide +kernel
theorem dX12_needOf_5 : decode cX12_needOf 5 = .ok (.lconst 1, 1) := by decide +kernel
theorem dX12_needOf_6 : decode cX12_needOf 6 = .ok (.iload_n 2, 1) := by decide +kernel
theorem dX12_needOf_7 : decode cX12_needOf 7 = .ok (.lshl, 1) := by decide +kernel
theorem dX12_needOf_8 : decode cX12_needOf 8 = .ok (.ldc2_w 115, 3) := by decide +kernel
theorem dX12_needOf_11 : decode cX12_needOf 11 = .ok (.lxor, 1) := by decide +kernel
theorem dX12_needOf_12 : decode cX12_needOf 12 = .ok (.land, 1) := by decide +kernel
theorem dX12_needOf_13 : decode cX12_needOf 13 = .ok (.iload_n 1, 1) := by decide +kernel
theorem dX12_needOf_14 : decode cX12_needOf 14 = .ok (.invokevirtual 434, 3) := by decide +kernel
theorem dX12_needOf_17 : decode cX12_needOf 17 = .ok (.aload_n 0, 1) := by decide +kernel
theorem dX12_needOf_18 : decode cX12_needOf 18 = .ok (.getfield 136, 3) := by decide +kernel
theorem dX12_needOf_21 : decode cX12_needOf 21 = .ok (.iload_n 1, 1) := by decide +kernel
theorem dX12_needOf_22 : decode cX12_needOf 22 = .ok (.laload, 1) := by decide +kernel
theorem dX12_needOf_23 : decode cX12_needOf 23 = .ok (.lsub, 1) := by decide +kernel
theorem dX12_needOf_24 : decode cX12_needOf 24 = .ok (.lstore_n 3, 1) := by decide +kernel
theorem dX12_needOf_25 : decode cX12_needOf 25 = .ok (.lload_n 3, 1) := by decide +kernel
theorem dX12_needOf_26 : decode cX12_needOf 26 = .ok (.lconst 0, 1) := by decide +kernel
theorem dX12_needOf_27 : decode cX12_needOf 27 = .ok (.lcmp, 1) := by decide +kernel
theorem dX12_needOf_28 : decode cX12_needOf 28 = .ok (.ifCond .le 7, 3) := by decide +kernel
theorem dX12_needOf_31 : decode cX12_needOf 31 = .ok (.lload_n 3, 1) := by decide +kernel
theorem dX12_needOf_32 : decode cX12_needOf 32 = .ok (.goto 4, 3) := by decide +kernel
theorem dX12_needOf_35 : decode cX12_needOf 35 = .ok (.lconst 0, 1) := by decide +kernel
theorem dX12_needOf_36 : decode cX12_needOf 36 = .ok (.lreturn, 1) := by decide +kernel
theorem dX12_beside_0 : decode cX12_beside 0 = .ok (.iload_n 2, 1) := by decide +kernel
theorem dX12_beside_1 : decode cX12_beside 1 = .ok (.invokestatic 452, 3) := by decide +kernel
theorem dX12_beside_4 : decode cX12_beside 4 = .ok (.iload_n 1, 1) := by decide +kernel
theorem dX12_beside_5 : decode cX12_beside 5 = .ok (.if_icmp .ne 10, 3) := by decide +kernel
theorem dX12_beside_8 : decode cX12_beside 8 = .ok (.iload_n 2, 1) := by decide +kernel
theorem dX12_beside_9 : decode cX12_beside 9 = .ok (.invokestatic 348, 3) := by decide +kernel
theorem dX12_beside_12 : decode cX12_beside 12 = .ok (.goto 7, 3) := by decide +kernel
theorem dX12_beside_15 : decode cX12_beside 15 = .ok (.iload_n 2, 1) := by decide +kernel
theorem dX12_beside_16 : decode cX12_beside 16 = .ok (.invokestatic 452, 3) := by decide +kernel
theorem dX12_beside_19 : decode cX12_beside 19 = .ok (.ireturn, 1) := by decide +kernel
theorem dX12_passes_0 : decode cX12_passes 0 = .ok (.aload_n 0, 1) := by decide +kernel
theorem dX12_passes_1 : decode cX12_passes 1 = .ok (.iload_n 1, 1) := by decide +kernel
theorem dX12_passes_2 : decode cX12_passes 2 = .ok (.iload_n 2, 1) := by decide +kernel
theorem dX12_passes_3 : decode cX12_passes 3 = .ok (.invokevirtual 560, 3) := by decide +kernel
theorem dX12_passes_6 : decode cX12_passes 6 = .ok (.lstore_n 3, 1) := by decide +kernel
theorem dX12_passes_7 : decode cX12_passes 7 = .ok (.aload_n 0, 1) := by decide +kernel
theorem dX12_passes_8 : decode cX12_passes 8 = .ok (.iload_n 1, 1) := by decide +kernel
theorem dX12_passes_9 : decode cX12_passes 9 = .ok (.iload_n 2, 1) := by decide +kernel
theorem dX12_passes_10 : decode cX12_passes 10 = .ok (.invokevirtual 563, 3) := by decide +kernel
theorem dX12_passes_13 : decode cX12_passes 13 = .ok (.istore 5, 2) := by decide +kernel
theorem dX12_passes_15 : decode cX12_passes 15 = .ok (.aload_n 0, 1) := by decide +kernel
theorem dX12_passes_16 : decode cX12_passes 16 = .ok (.getfield 136, 3) := by decide +kernel
theorem dX12_passes_19 : decode cX12_passes 19 = .ok (.iload 5, 2) := by decide +kernel
theorem dX12_passes_21 : decode cX12_passes 21 = .ok (.laload, 1) := by decide +kernel
theorem dX12_passes_22 : decode cX12_passes 22 = .ok (.aload_n 0, 1) := by decide +kernel
theorem dX12_passes_23 : decode cX12_passes 23 = .ok (.aload_n 0, 1) := by decide +kernel
theorem dX12_passes_24 : decode cX12_passes 24 = .ok (.getfield 323, 3) := by decide +kernel
theorem dX12_passes_27 : decode cX12_passes 27 = .ok (.lconst 1, 1) := by decide +kernel
theorem dX12_passes_28 : decode cX12_passes 28 = .ok (.iload_n 2, 1) := by decide +kernel
theorem dX12_passes_29 : decode cX12_passes 29 = .ok (.lshl, 1) := by decide +kernel
theorem dX12_passes_30 : decode cX12_passes 30 = .ok (.ldc2_w 115, 3) := by decide +kernel
theorem dX12_passes_33 : decode cX12_passes 33 = .ok (.lxor, 1) := by decide +kernel
theorem dX12_passes_34 : decode cX12_passes 34 = .ok (.land, 1) := by decide +kernel
theorem dX12_passes_35 : decode cX12_passes 35 = .ok (.iload 5, 2) := by decide +kernel
theorem dX12_passes_37 : decode cX12_passes 37 = .ok (.invokevirtual 434, 3) := by decide +kernel
theorem dX12_passes_40 : decode cX12_passes 40 = .ok (.lsub, 1) := by decide +kernel
theorem dX12_passes_41 : decode cX12_passes 41 = .ok (.lstore 6, 2) := by decide +kernel
theorem dX12_passes_43 : decode cX12_passes 43 = .ok (.lload 6, 2) := by decide +kernel
theorem dX12_passes_45 : decode cX12_passes 45 = .ok (.lconst 0, 1) := by decide +kernel
theorem dX12_passes_46 : decode cX12_passes 46 = .ok (.lcmp, 1) := by decide +kernel
theorem dX12_passes_47 : decode cX12_passes 47 = .ok (.ifCond .gt 7, 3) := by decide +kernel
theorem dX12_passes_50 : decode cX12_passes 50 = .ok (.lconst 0, 1) := by decide +kernel
theorem dX12_passes_51 : decode cX12_passes 51 = .ok (.goto 16, 3) := by decide +kernel
theorem dX12_passes_54 : decode cX12_passes 54 = .ok (.lload 6, 2) := by decide +kernel
theorem dX12_passes_56 : decode cX12_passes 56 = .ok (.lload_n 3, 1) := by decide +kernel
theorem dX12_passes_57 : decode cX12_passes 57 = .ok (.lcmp, 1) := by decide +kernel
theorem dX12_passes_58 : decode cX12_passes 58 = .ok (.ifCond .ge 8, 3) := by decide +kernel
theorem dX12_passes_61 : decode cX12_passes 61 = .ok (.lload 6, 2) := by decide +kernel
theorem dX12_passes_63 : decode cX12_passes 63 = .ok (.goto 4, 3) := by decide +kernel
theorem dX12_passes_66 : decode cX12_passes 66 = .ok (.lload_n 3, 1) := by decide +kernel
theorem dX12_passes_67 : decode cX12_passes 67 = .ok (.lreturn, 1) := by decide +kernel
theorem dX12_gifts_0 : decode cX12_gifts 0 = .ok (.iload_n 1, 1) := by decide +kernel
theorem dX12_gifts_1 : decode cX12_gifts 1 = .ok (.i2l, 1) := by decide +kernel
theorem dX12_gifts_2 : decode cX12_gifts 2 = .ok (.lconst 0, 1) := by decide +kernel
theorem dX12_gifts_3 : decode cX12_gifts 3 = .ok (.ldc2_w 534, 3) := by decide +kernel
theorem dX12_gifts_6 : decode cX12_gifts 6 = .ok (.invokestatic 206, 3) := by decide +kernel
theorem dX12_gifts_9 : decode cX12_gifts 9 = .ok (.ifCond .ne 7, 3) := by decide +kernel
theorem dX12_gifts_12 : decode cX12_gifts 12 = .ok (.ldc2_w 115, 3) := by decide +kernel
theorem dX12_gifts_15 : decode cX12_gifts 15 = .ok (.lreturn, 1) := by decide +kernel
theorem dX12_gifts_16 : decode cX12_gifts 16 = .ok (.aload_n 0, 1) := by decide +kernel
theorem dX12_gifts_17 : decode cX12_gifts 17 = .ok (.aload_n 0, 1) := by decide +kernel
theorem dX12_gifts_18 : decode cX12_gifts 18 = .ok (.getfield 323, 3) := by decide +kernel
theorem dX12_gifts_21 : decode cX12_gifts 21 = .ok (.invokevirtual 475, 3) := by decide +kernel
theorem dX12_gifts_24 : decode cX12_gifts 24 = .ok (.iload_n 1, 1) := by decide +kernel
theorem dX12_gifts_25 : decode cX12_gifts 25 = .ok (.iconst 2, 1) := by decide +kernel
theorem dX12_gifts_26 : decode cX12_gifts 26 = .ok (.if_icmp .ne 20, 3) := by decide +kernel
theorem dX12_gifts_29 : decode cX12_gifts 29 = .ok (.aload_n 0, 1) := by decide +kernel
theorem dX12_gifts_30 : decode cX12_gifts 30 = .ok (.aload_n 0, 1) := by decide +kernel
theorem dX12_gifts_31 : decode cX12_gifts 31 = .ok (.getfield 323, 3) := by decide +kernel
theorem dX12_gifts_34 : decode cX12_gifts 34 = .ok (.invokevirtual 487, 3) := by decide +kernel
theorem dX12_gifts_37 : decode cX12_gifts 37 = .ok (.ifCond .eq 7, 3) := by decide +kernel
theorem dX12_gifts_40 : decode cX12_gifts 40 = .ok (.lconst 0, 1) := by decide +kernel
theorem dX12_gifts_41 : decode cX12_gifts 41 = .ok (.goto 4, 3) := by decide +kernel
theorem dX12_gifts_44 : decode cX12_gifts 44 = .ok (.lconst 1, 1) := by decide +kernel
theorem dX12_gifts_45 : decode cX12_gifts 45 = .ok (.lreturn, 1) := by decide +kernel
theorem dX12_gifts_46 : decode cX12_gifts 46 = .ok (.lconst 0, 1) := by decide +kernel
theorem dX12_gifts_47 : decode cX12_gifts 47 = .ok (.lstore_n 2, 1) := by decide +kernel
theorem dX12_gifts_48 : decode cX12_gifts 48 = .ok (.iconst 0, 1) := by decide +kernel
theorem dX12_gifts_49 : decode cX12_gifts 49 = .ok (.istore 4, 2) := by decide +kernel
theorem dX12_gifts_51 : decode cX12_gifts 51 = .ok (.iload 4, 2) := by decide +kernel
theorem dX12_gifts_53 : decode cX12_gifts 53 = .ok (.aload_n 0, 1) := by decide +kernel
theorem dX12_gifts_54 : decode cX12_gifts 54 = .ok (.invokevirtual 355, 3) := by decide +kernel
theorem dX12_gifts_57 : decode cX12_gifts 57 = .ok (.if_icmp .ge 92, 3) := by decide +kernel
theorem dX12_gifts_60 : decode cX12_gifts 60 = .ok (.aload_n 0, 1) := by decide +kernel
theorem dX12_gifts_61 : decode cX12_gifts 61 = .ok (.getfield 323, 3) := by decide +kernel
theorem dX12_gifts_64 : decode cX12_gifts 64 = .ok (.iload 4, 2) := by decide +kernel
theorem dX12_gifts_66 : decode cX12_gifts 66 = .ok (.invokestatic 351, 3) := by decide +kernel
theorem dX12_gifts_69 : decode cX12_gifts 69 = .ok (.ifCond .ne 6, 3) := by decide +kernel
theorem dX12_gifts_72 : decode cX12_gifts 72 = .ok (.goto 71, 3) := by decide +kernel
theorem dX12_gifts_75 : decode cX12_gifts 75 = .ok (.iconst 0, 1) := by decide +kernel
theorem dX12_gifts_76 : decode cX12_gifts 76 = .ok (.istore 5, 2) := by decide +kernel
theorem dX12_gifts_78 : decode cX12_gifts 78 = .ok (.iload 5, 2) := by decide +kernel
theorem dX12_gifts_80 : decode cX12_gifts 80 = .ok (.iconst 2, 1) := by decide +kernel
theorem dX12_gifts_81 : decode cX12_gifts 81 = .ok (.if_icmp .ge 62, 3) := by decide +kernel
theorem dX12_gifts_84 : decode cX12_gifts 84 = .ok (.iload 5, 2) := by decide +kernel
theorem dX12_gifts_86 : decode cX12_gifts 86 = .ok (.ifCond .ne 11, 3) := by decide +kernel
theorem dX12_gifts_89 : decode cX12_gifts 89 = .ok (.iload 4, 2) := by decide +kernel
theorem dX12_gifts_91 : decode cX12_gifts 91 = .ok (.invokestatic 452, 3) := by decide +kernel
theorem dX12_gifts_94 : decode cX12_gifts 94 = .ok (.goto 8, 3) := by decide +kernel
theorem dX12_gifts_97 : decode cX12_gifts 97 = .ok (.iload 4, 2) := by decide +kernel
theorem dX12_gifts_99 : decode cX12_gifts 99 = .ok (.invokestatic 348, 3) := by decide +kernel
theorem dX12_gifts_102 : decode cX12_gifts 102 = .ok (.istore 6, 2) := by decide +kernel
theorem dX12_gifts_104 : decode cX12_gifts 104 = .ok (.aload_n 0, 1) := by decide +kernel
theorem dX12_gifts_105 : decode cX12_gifts 105 = .ok (.iload 6, 2) := by decide +kernel
theorem dX12_gifts_107 : decode cX12_gifts 107 = .ok (.iload 4, 2) := by decide +kernel
theorem dX12_gifts_109 : decode cX12_gifts 109 = .ok (.invokevirtual 566, 3) := by decide +kernel
theorem dX12_gifts_112 : decode cX12_gifts 112 = .ok (.lstore 7, 2) := by decide +kernel
theorem dX12_gifts_114 : decode cX12_gifts 114 = .ok (.lload_n 2, 1) := by decide +kernel
theorem dX12_gifts_115 : decode cX12_gifts 115 = .ok (.iload_n 1, 1) := by decide +kernel
theorem dX12_gifts_116 : decode cX12_gifts 116 = .ok (.ifCond .ne 8, 3) := by decide +kernel
theorem dX12_gifts_119 : decode cX12_gifts 119 = .ok (.lload 7, 2) := by decide +kernel
theorem dX12_gifts_121 : decode cX12_gifts 121 = .ok (.goto 14, 3) := by decide +kernel
theorem dX12_gifts_124 : decode cX12_gifts 124 = .ok (.aload_n 0, 1) := by decide +kernel
theorem dX12_gifts_125 : decode cX12_gifts 125 = .ok (.iload 6, 2) := by decide +kernel
theorem dX12_gifts_127 : decode cX12_gifts 127 = .ok (.iload 4, 2) := by decide +kernel
theorem dX12_gifts_129 : decode cX12_gifts 129 = .ok (.invokevirtual 560, 3) := by decide +kernel
theorem dX12_gifts_132 : decode cX12_gifts 132 = .ok (.lload 7, 2) := by decide +kernel
theorem dX12_gifts_134 : decode cX12_gifts 134 = .ok (.lsub, 1) := by decide +kernel
theorem dX12_gifts_135 : decode cX12_gifts 135 = .ok (.ladd, 1) := by decide +kernel
theorem dX12_gifts_136 : decode cX12_gifts 136 = .ok (.lstore_n 2, 1) := by decide +kernel
theorem dX12_gifts_137 : decode cX12_gifts 137 = .ok (.iinc 5 1, 3) := by decide +kernel
theorem dX12_gifts_140 : decode cX12_gifts 140 = .ok (.goto (-62), 3) := by decide +kernel
theorem dX12_gifts_143 : decode cX12_gifts 143 = .ok (.iinc 4 1, 3) := by decide +kernel
theorem dX12_gifts_146 : decode cX12_gifts 146 = .ok (.goto (-95), 3) := by decide +kernel
theorem dX12_gifts_149 : decode cX12_gifts 149 = .ok (.lload_n 2, 1) := by decide +kernel
theorem dX12_gifts_150 : decode cX12_gifts 150 = .ok (.lreturn, 1) := by decide +kernel
theorem dX12_gift_0 : decode cX12_gift 0 = .ok (.aload_n 0, 1) := by decide +kernel
theorem dX12_gift_1 : decode cX12_gift 1 = .ok (.iload_n 1, 1) := by decide +kernel
theorem dX12_gift_2 : decode cX12_gift 2 = .ok (.invokevirtual 365, 3) := by decide +kernel
theorem dX12_gift_5 : decode cX12_gift 5 = .ok (.ifCond .eq 46, 3) := by decide +kernel
theorem dX12_gift_8 : decode cX12_gift 8 = .ok (.iload_n 2, 1) := by decide +kernel
theorem dX12_gift_9 : decode cX12_gift 9 = .ok (.i2l, 1) := by decide +kernel
theorem dX12_gift_10 : decode cX12_gift 10 = .ok (.lconst 0, 1) := by decide +kernel
theorem dX12_gift_11 : decode cX12_gift 11 = .ok (.aload_n 0, 1) := by decide +kernel
theorem dX12_gift_12 : decode cX12_gift 12 = .ok (.invokevirtual 355, 3) := by decide +kernel
theorem dX12_gift_15 : decode cX12_gift 15 = .ok (.iconst 1, 1) := by decide +kernel
theorem dX12_gift_16 : decode cX12_gift 16 = .ok (.isub, 1) := by decide +kernel
theorem dX12_gift_17 : decode cX12_gift 17 = .ok (.i2l, 1) := by decide +kernel
theorem dX12_gift_18 : decode cX12_gift 18 = .ok (.invokestatic 206, 3) := by decide +kernel
theorem dX12_gift_21 : decode cX12_gift 21 = .ok (.ifCond .eq 30, 3) := by decide +kernel
theorem dX12_gift_24 : decode cX12_gift 24 = .ok (.aload_n 0, 1) := by decide +kernel
theorem dX12_gift_25 : decode cX12_gift 25 = .ok (.getfield 323, 3) := by decide +kernel
theorem dX12_gift_28 : decode cX12_gift 28 = .ok (.iload_n 2, 1) := by decide +kernel
theorem dX12_gift_29 : decode cX12_gift 29 = .ok (.invokestatic 351, 3) := by decide +kernel
theorem dX12_gift_32 : decode cX12_gift 32 = .ok (.ifCond .eq 19, 3) := by decide +kernel
theorem dX12_gift_35 : decode cX12_gift 35 = .ok (.iload_n 2, 1) := by decide +kernel
theorem dX12_gift_36 : decode cX12_gift 36 = .ok (.invokestatic 452, 3) := by decide +kernel
theorem dX12_gift_39 : decode cX12_gift 39 = .ok (.iload_n 1, 1) := by decide +kernel
theorem dX12_gift_40 : decode cX12_gift 40 = .ok (.if_icmp .eq 15, 3) := by decide +kernel
theorem dX12_gift_43 : decode cX12_gift 43 = .ok (.iload_n 2, 1) := by decide +kernel
theorem dX12_gift_44 : decode cX12_gift 44 = .ok (.invokestatic 348, 3) := by decide +kernel
theorem dX12_gift_47 : decode cX12_gift 47 = .ok (.iload_n 1, 1) := by decide +kernel
theorem dX12_gift_48 : decode cX12_gift 48 = .ok (.if_icmp .eq 7, 3) := by decide +kernel
theorem dX12_gift_51 : decode cX12_gift 51 = .ok (.ldc2_w 115, 3) := by decide +kernel
theorem dX12_gift_54 : decode cX12_gift 54 = .ok (.lreturn, 1) := by decide +kernel
theorem dX12_gift_55 : decode cX12_gift 55 = .ok (.aload_n 0, 1) := by decide +kernel
theorem dX12_gift_56 : decode cX12_gift 56 = .ok (.aload_n 0, 1) := by decide +kernel
theorem dX12_gift_57 : decode cX12_gift 57 = .ok (.getfield 323, 3) := by decide +kernel
theorem dX12_gift_60 : decode cX12_gift 60 = .ok (.invokevirtual 475, 3) := by decide +kernel
theorem dX12_gift_63 : decode cX12_gift 63 = .ok (.aload_n 0, 1) := by decide +kernel
theorem dX12_gift_64 : decode cX12_gift 64 = .ok (.iload_n 1, 1) := by decide +kernel
theorem dX12_gift_65 : decode cX12_gift 65 = .ok (.iload_n 2, 1) := by decide +kernel
theorem dX12_gift_66 : decode cX12_gift 66 = .ok (.invokevirtual 566, 3) := by decide +kernel
theorem dX12_gift_69 : decode cX12_gift 69 = .ok (.lstore 4, 2) := by decide +kernel
theorem dX12_gift_71 : decode cX12_gift 71 = .ok (.iload_n 3, 1) := by decide +kernel
theorem dX12_gift_72 : decode cX12_gift 72 = .ok (.ifCond .eq 15, 3) := by decide +kernel
theorem dX12_gift_75 : decode cX12_gift 75 = .ok (.aload_n 0, 1) := by decide +kernel
theorem dX12_gift_76 : decode cX12_gift 76 = .ok (.iload_n 1, 1) := by decide +kernel
theorem dX12_gift_77 : decode cX12_gift 77 = .ok (.iload_n 2, 1) := by decide +kernel
theorem dX12_gift_78 : decode cX12_gift 78 = .ok (.invokevirtual 560, 3) := by decide +kernel
theorem dX12_gift_81 : decode cX12_gift 81 = .ok (.lload 4, 2) := by decide +kernel
theorem dX12_gift_83 : decode cX12_gift 83 = .ok (.lsub, 1) := by decide +kernel
theorem dX12_gift_84 : decode cX12_gift 84 = .ok (.goto 5, 3) := by decide +kernel
theorem dX12_gift_87 : decode cX12_gift 87 = .ok (.lload 4, 2) := by decide +kernel
theorem dX12_gift_89 : decode cX12_gift 89 = .ok (.lreturn, 1) := by decide +kernel
theorem dX12_good_0 : decode cX12_good 0 = .ok (.aload_n 0, 1) := by decide +kernel
theorem dX12_good_1 : decode cX12_good 1 = .ok (.aload_n 0, 1) := by decide +kernel
theorem dX12_good_2 : decode cX12_good 2 = .ok (.getfield 323, 3) := by decide +kernel
theorem dX12_good_5 : decode cX12_good 5 = .ok (.invokevirtual 438, 3) := by decide +kernel
theorem dX12_good_8 : decode cX12_good 8 = .ok (.lstore_n 2, 1) := by decide +kernel
theorem dX12_good_9 : decode cX12_good 9 = .ok (.aload_n 0, 1) := by decide +kernel
theorem dX12_good_10 : decode cX12_good 10 = .ok (.aload_n 0, 1) := by decide +kernel
theorem dX12_good_11 : decode cX12_good 11 = .ok (.getfield 323, 3) := by decide +kernel
theorem dX12_good_14 : decode cX12_good 14 = .ok (.invokevirtual 475, 3) := by decide +kernel
theorem dX12_good_17 : decode cX12_good 17 = .ok (.lconst 0, 1) := by decide +kernel
theorem dX12_good_18 : decode cX12_good 18 = .ok (.lstore 4, 2) := by decide +kernel
theorem dX12_good_20 : decode cX12_good 20 = .ok (.iconst 0, 1) := by decide +kernel
theorem dX12_good_21 : decode cX12_good 21 = .ok (.istore 6, 2) := by decide +kernel
theorem dX12_good_23 : decode cX12_good 23 = .ok (.iload 6, 2) := by decide +kernel
theorem dX12_good_25 : decode cX12_good 25 = .ok (.aload_n 0, 1) := by decide +kernel
theorem dX12_good_26 : decode cX12_good 26 = .ok (.invokevirtual 355, 3) := by decide +kernel
theorem dX12_good_29 : decode cX12_good 29 = .ok (.if_icmp .ge 78, 3) := by decide +kernel
theorem dX12_good_32 : decode cX12_good 32 = .ok (.aload_n 0, 1) := by decide +kernel
theorem dX12_good_33 : decode cX12_good 33 = .ok (.getfield 323, 3) := by decide +kernel
theorem dX12_good_36 : decode cX12_good 36 = .ok (.lconst 1, 1) := by decide +kernel
theorem dX12_good_37 : decode cX12_good 37 = .ok (.iload 6, 2) := by decide +kernel
theorem dX12_good_39 : decode cX12_good 39 = .ok (.lshl, 1) := by decide +kernel
theorem dX12_good_40 : decode cX12_good 40 = .ok (.lxor, 1) := by decide +kernel
theorem dX12_good_41 : decode cX12_good 41 = .ok (.lstore 7, 2) := by decide +kernel
theorem dX12_good_43 : decode cX12_good 43 = .ok (.aload_n 0, 1) := by decide +kernel
theorem dX12_good_44 : decode cX12_good 44 = .ok (.getfield 323, 3) := by decide +kernel
theorem dX12_good_47 : decode cX12_good 47 = .ok (.iload 6, 2) := by decide +kernel
theorem dX12_good_49 : decode cX12_good 49 = .ok (.invokestatic 351, 3) := by decide +kernel
theorem dX12_good_52 : decode cX12_good 52 = .ok (.iload_n 1, 1) := by decide +kernel
theorem dX12_good_53 : decode cX12_good 53 = .ok (.if_icmp .ne 48, 3) := by decide +kernel
theorem dX12_good_56 : decode cX12_good 56 = .ok (.aload_n 0, 1) := by decide +kernel
theorem dX12_good_57 : decode cX12_good 57 = .ok (.lload 7, 2) := by decide +kernel
theorem dX12_good_59 : decode cX12_good 59 = .ok (.invokevirtual 370, 3) := by decide +kernel
theorem dX12_good_62 : decode cX12_good 62 = .ok (.ifCond .eq 39, 3) := by decide +kernel
theorem dX12_good_65 : decode cX12_good 65 = .ok (.aload_n 0, 1) := by decide +kernel
theorem dX12_good_66 : decode cX12_good 66 = .ok (.aload_n 0, 1) := by decide +kernel
theorem dX12_good_67 : decode cX12_good 67 = .ok (.getfield 323, 3) := by decide +kernel
theorem dX12_good_70 : decode cX12_good 70 = .ok (.iload 6, 2) := by decide +kernel
theorem dX12_good_72 : decode cX12_good 72 = .ok (.invokevirtual 505, 3) := by decide +kernel
theorem dX12_good_75 : decode cX12_good 75 = .ok (.ifCond .eq 6, 3) := by decide +kernel
theorem dX12_good_78 : decode cX12_good 78 = .ok (.goto 23, 3) := by decide +kernel
theorem dX12_good_81 : decode cX12_good 81 = .ok (.aload_n 0, 1) := by decide +kernel
theorem dX12_good_82 : decode cX12_good 82 = .ok (.lload 7, 2) := by decide +kernel
theorem dX12_good_84 : decode cX12_good 84 = .ok (.invokevirtual 438, 3) := by decide +kernel
theorem dX12_good_87 : decode cX12_good 87 = .ok (.lload_n 2, 1) := by decide +kernel
theorem dX12_good_88 : decode cX12_good 88 = .ok (.lcmp, 1) := by decide +kernel
theorem dX12_good_89 : decode cX12_good 89 = .ok (.ifCond .le 12, 3) := by decide +kernel
theorem dX12_good_92 : decode cX12_good 92 = .ok (.lload 4, 2) := by decide +kernel
theorem dX12_good_94 : decode cX12_good 94 = .ok (.lconst 1, 1) := by decide +kernel
theorem dX12_good_95 : decode cX12_good 95 = .ok (.iload 6, 2) := by decide +kernel
theorem dX12_good_97 : decode cX12_good 97 = .ok (.lshl, 1) := by decide +kernel
theorem dX12_good_98 : decode cX12_good 98 = .ok (.lor, 1) := by decide +kernel
theorem dX12_good_99 : decode cX12_good 99 = .ok (.lstore 4, 2) := by decide +kernel
theorem dX12_good_101 : decode cX12_good 101 = .ok (.iinc 6 1, 3) := by decide +kernel
theorem dX12_good_104 : decode cX12_good 104 = .ok (.goto (-81), 3) := by decide +kernel
theorem dX12_good_107 : decode cX12_good 107 = .ok (.lload 4, 2) := by decide +kernel
theorem dX12_good_109 : decode cX12_good 109 = .ok (.lreturn, 1) := by decide +kernel
theorem dX12_edge_0 : decode cX12_edge 0 = .ok (.aload_n 0, 1) := by decide +kernel
theorem dX12_edge_1 : decode cX12_edge 1 = .ok (.invokevirtual 345, 3) := by decide +kernel
theorem dX12_edge_4 : decode cX12_edge 4 = .ok (.bipush 6, 2) := by decide +kernel
theorem dX12_edge_6 : decode cX12_edge 6 = .ok (.if_icmp .gt 51, 3) := by decide +kernel
theorem dX12_edge_9 : decode cX12_edge 9 = .ok (.iload_n 1, 1) := by decide +kernel
theorem dX12_edge_10 : decode cX12_edge 10 = .ok (.i2l, 1) := by decide +kernel
theorem dX12_edge_11 : decode cX12_edge 11 = .ok (.lconst 0, 1) := by decide +kernel
theorem dX12_edge_12 : decode cX12_edge 12 = .ok (.ldc2_w 569, 3) := by decide +kernel
theorem dX12_edge_15 : decode cX12_edge 15 = .ok (.invokestatic 206, 3) := by decide +kernel
theorem dX12_edge_18 : decode cX12_edge 18 = .ok (.ifCond .eq 39, 3) := by decide +kernel
theorem dX12_edge_21 : decode cX12_edge 21 = .ok (.iload_n 2, 1) := by decide +kernel
theorem dX12_edge_22 : decode cX12_edge 22 = .ok (.i2l, 1) := by decide +kernel
theorem dX12_edge_23 : decode cX12_edge 23 = .ok (.ldc2_w 385, 3) := by decide +kernel
theorem dX12_edge_26 : decode cX12_edge 26 = .ok (.ldc2_w 387, 3) := by decide +kernel
theorem dX12_edge_29 : decode cX12_edge 29 = .ok (.invokestatic 206, 3) := by decide +kernel
theorem dX12_edge_32 : decode cX12_edge 32 = .ok (.ifCond .eq 25, 3) := by decide +kernel
theorem dX12_edge_35 : decode cX12_edge 35 = .ok (.iload_n 3, 1) := by decide +kernel
theorem dX12_edge_36 : decode cX12_edge 36 = .ok (.i2l, 1) := by decide +kernel
theorem dX12_edge_37 : decode cX12_edge 37 = .ok (.iload_n 2, 1) := by decide +kernel
theorem dX12_edge_38 : decode cX12_edge 38 = .ok (.i2l, 1) := by decide +kernel
theorem dX12_edge_39 : decode cX12_edge 39 = .ok (.ldc2_w 387, 3) := by decide +kernel
theorem dX12_edge_42 : decode cX12_edge 42 = .ok (.invokestatic 206, 3) := by decide +kernel
theorem dX12_edge_45 : decode cX12_edge 45 = .ok (.ifCond .eq 12, 3) := by decide +kernel
theorem dX12_edge_48 : decode cX12_edge 48 = .ok (.iload_n 3, 1) := by decide +kernel
theorem dX12_edge_49 : decode cX12_edge 49 = .ok (.iload_n 2, 1) := by decide +kernel
theorem dX12_edge_50 : decode cX12_edge 50 = .ok (.isub, 1) := by decide +kernel
theorem dX12_edge_51 : decode cX12_edge 51 = .ok (.sipush 200, 3) := by decide +kernel
theorem dX12_edge_54 : decode cX12_edge 54 = .ok (.if_icmp .le 7, 3) := by decide +kernel
theorem dX12_edge_57 : decode cX12_edge 57 = .ok (.ldc_w 571, 3) := by decide +kernel
theorem dX12_edge_60 : decode cX12_edge 60 = .ok (.ireturn, 1) := by decide +kernel
theorem dX12_edge_61 : decode cX12_edge 61 = .ok (.aload_n 0, 1) := by decide +kernel
theorem dX12_edge_62 : decode cX12_edge 62 = .ok (.getfield 326, 3) := by decide +kernel
theorem dX12_edge_65 : decode cX12_edge 65 = .ok (.istore 5, 2) := by decide +kernel
theorem dX12_edge_67 : decode cX12_edge 67 = .ok (.ldc_w 572, 3) := by decide +kernel
theorem dX12_edge_70 : decode cX12_edge 70 = .ok (.istore 6, 2) := by decide +kernel
theorem dX12_edge_72 : decode cX12_edge 72 = .ok (.iconst 0, 1) := by decide +kernel
theorem dX12_edge_73 : decode cX12_edge 73 = .ok (.istore 7, 2) := by decide +kernel
theorem dX12_edge_75 : decode cX12_edge 75 = .ok (.iconst 0, 1) := by decide +kernel
theorem dX12_edge_76 : decode cX12_edge 76 = .ok (.istore 8, 2) := by decide +kernel
theorem dX12_edge_78 : decode cX12_edge 78 = .ok (.iload 8, 2) := by decide +kernel
theorem dX12_edge_80 : decode cX12_edge 80 = .ok (.iload_n 3, 1) := by decide +kernel
theorem dX12_edge_81 : decode cX12_edge 81 = .ok (.iload_n 2, 1) := by decide +kernel
theorem dX12_edge_82 : decode cX12_edge 82 = .ok (.isub, 1) := by decide +kernel
theorem dX12_edge_83 : decode cX12_edge 83 = .ok (.if_icmp .gt 56, 3) := by decide +kernel
theorem dX12_edge_86 : decode cX12_edge 86 = .ok (.iload 7, 2) := by decide +kernel
theorem dX12_edge_88 : decode cX12_edge 88 = .ok (.ifCond .ne 51, 3) := by decide +kernel
theorem dX12_edge_91 : decode cX12_edge 91 = .ok (.aload_n 0, 1) := by decide +kernel
theorem dX12_edge_92 : decode cX12_edge 92 = .ok (.iload 4, 2) := by decide +kernel
theorem dX12_edge_94 : decode cX12_edge 94 = .ok (.ifCond .eq 10, 3) := by decide +kernel
theorem dX12_edge_97 : decode cX12_edge 97 = .ok (.iload_n 3, 1) := by decide +kernel
theorem dX12_edge_98 : decode cX12_edge 98 = .ok (.iload 8, 2) := by decide +kernel
theorem dX12_edge_100 : decode cX12_edge 100 = .ok (.isub, 1) := by decide +kernel
theorem dX12_edge_101 : decode cX12_edge 101 = .ok (.goto 7, 3) := by decide +kernel
theorem dX12_edge_104 : decode cX12_edge 104 = .ok (.iload_n 2, 1) := by decide +kernel
theorem dX12_edge_105 : decode cX12_edge 105 = .ok (.iload 8, 2) := by decide +kernel
theorem dX12_edge_107 : decode cX12_edge 107 = .ok (.iadd, 1) := by decide +kernel
theorem dX12_edge_108 : decode cX12_edge 108 = .ok (.putfield 326, 3) := by decide +kernel
theorem dX12_edge_111 : decode cX12_edge 111 = .ok (.aload_n 0, 1) := by decide +kernel
theorem dX12_edge_112 : decode cX12_edge 112 = .ok (.aload_n 0, 1) := by decide +kernel
theorem dX12_edge_113 : decode cX12_edge 113 = .ok (.getfield 323, 3) := by decide +kernel
theorem dX12_edge_116 : decode cX12_edge 116 = .ok (.iload_n 1, 1) := by decide +kernel
theorem dX12_edge_117 : decode cX12_edge 117 = .ok (.invokevirtual 496, 3) := by decide +kernel
theorem dX12_edge_120 : decode cX12_edge 120 = .ok (.istore 7, 2) := by decide +kernel
theorem dX12_edge_122 : decode cX12_edge 122 = .ok (.iload 7, 2) := by decide +kernel
theorem dX12_edge_124 : decode cX12_edge 124 = .ok (.ifCond .eq 9, 3) := by decide +kernel
theorem dX12_edge_127 : decode cX12_edge 127 = .ok (.aload_n 0, 1) := by decide +kernel
theorem dX12_edge_128 : decode cX12_edge 128 = .ok (.getfield 326, 3) := by decide +kernel
theorem dX12_edge_131 : decode cX12_edge 131 = .ok (.istore 6, 2) := by decide +kernel
theorem dX12_edge_133 : decode cX12_edge 133 = .ok (.iinc 8 1, 3) := by decide +kernel
theorem dX12_edge_136 : decode cX12_edge 136 = .ok (.goto (-58), 3) := by decide +kernel
theorem dX12_edge_139 : decode cX12_edge 139 = .ok (.aload_n 0, 1) := by decide +kernel
theorem dX12_edge_140 : decode cX12_edge 140 = .ok (.iload 5, 2) := by decide +kernel
theorem dX12_edge_142 : decode cX12_edge 142 = .ok (.putfield 326, 3) := by decide +kernel
theorem dX12_edge_145 : decode cX12_edge 145 = .ok (.iload 6, 2) := by decide +kernel
theorem dX12_edge_147 : decode cX12_edge 147 = .ok (.ireturn, 1) := by decide +kernel
theorem dX12_lie_0 : decode cX12_lie 0 = .ok (.aload_n 0, 1) := by decide +kernel
theorem dX12_lie_1 : decode cX12_lie 1 = .ok (.iload_n 1, 1) := by decide +kernel
theorem dX12_lie_2 : decode cX12_lie 2 = .ok (.invokevirtual 365, 3) := by decide +kernel
theorem dX12_lie_5 : decode cX12_lie 5 = .ok (.ifCond .eq 12, 3) := by decide +kernel
theorem dX12_lie_8 : decode cX12_lie 8 = .ok (.aload_n 0, 1) := by decide +kernel
theorem dX12_lie_9 : decode cX12_lie 9 = .ok (.invokevirtual 345, 3) := by decide +kernel
theorem dX12_lie_12 : decode cX12_lie 12 = .ok (.bipush 6, 2) := by decide +kernel
theorem dX12_lie_14 : decode cX12_lie 14 = .ok (.if_icmp .le 5, 3) := by decide +kernel
theorem dX12_lie_17 : decode cX12_lie 17 = .ok (.iconst (-1), 1) := by decide +kernel
theorem dX12_lie_18 : decode cX12_lie 18 = .ok (.ireturn, 1) := by decide +kernel
theorem dX12_lie_19 : decode cX12_lie 19 = .ok (.iconst (-1), 1) := by decide +kernel
theorem dX12_lie_20 : decode cX12_lie 20 = .ok (.istore_n 2, 1) := by decide +kernel
theorem dX12_lie_21 : decode cX12_lie 21 = .ok (.lconst 0, 1) := by decide +kernel
theorem dX12_lie_22 : decode cX12_lie 22 = .ok (.lstore_n 3, 1) := by decide +kernel
theorem dX12_lie_23 : decode cX12_lie 23 = .ok (.iconst 0, 1) := by decide +kernel
theorem dX12_lie_24 : decode cX12_lie 24 = .ok (.istore 5, 2) := by decide +kernel
theorem dX12_lie_26 : decode cX12_lie 26 = .ok (.iload 5, 2) := by decide +kernel
theorem dX12_lie_28 : decode cX12_lie 28 = .ok (.bipush 20, 2) := by decide +kernel
theorem dX12_lie_30 : decode cX12_lie 30 = .ok (.if_icmp .gt 82, 3) := by decide +kernel
theorem dX12_lie_33 : decode cX12_lie 33 = .ok (.aload_n 0, 1) := by decide +kernel
theorem dX12_lie_34 : decode cX12_lie 34 = .ok (.iload_n 1, 1) := by decide +kernel
theorem dX12_lie_35 : decode cX12_lie 35 = .ok (.putfield 127, 3) := by decide +kernel
theorem dX12_lie_38 : decode cX12_lie 38 = .ok (.aload_n 0, 1) := by decide +kernel
theorem dX12_lie_39 : decode cX12_lie 39 = .ok (.iload 5, 2) := by decide +kernel
theorem dX12_lie_41 : decode cX12_lie 41 = .ok (.putfield 431, 3) := by decide +kernel
theorem dX12_lie_44 : decode cX12_lie 44 = .ok (.aload_n 0, 1) := by decide +kernel
theorem dX12_lie_45 : decode cX12_lie 45 = .ok (.lconst 0, 1) := by decide +kernel
theorem dX12_lie_46 : decode cX12_lie 46 = .ok (.invokevirtual 525, 3) := by decide +kernel
theorem dX12_lie_49 : decode cX12_lie 49 = .ok (.istore 6, 2) := by decide +kernel
theorem dX12_lie_51 : decode cX12_lie 51 = .ok (.aload_n 0, 1) := by decide +kernel
theorem dX12_lie_52 : decode cX12_lie 52 = .ok (.iconst (-1), 1) := by decide +kernel
theorem dX12_lie_53 : decode cX12_lie 53 = .ok (.putfield 127, 3) := by decide +kernel
theorem dX12_lie_56 : decode cX12_lie 56 = .ok (.iload 6, 2) := by decide +kernel
theorem dX12_lie_58 : decode cX12_lie 58 = .ok (.iconst (-1), 1) := by decide +kernel
theorem dX12_lie_59 : decode cX12_lie 59 = .ok (.if_icmp .eq 11, 3) := by decide +kernel
theorem dX12_lie_62 : decode cX12_lie 62 = .ok (.aload_n 0, 1) := by decide +kernel
theorem dX12_lie_63 : decode cX12_lie 63 = .ok (.getfield 519, 3) := by decide +kernel
theorem dX12_lie_66 : decode cX12_lie 66 = .ok (.iconst (-1), 1) := by decide +kernel
theorem dX12_lie_67 : decode cX12_lie 67 = .ok (.if_icmp .eq 7, 3) := by decide +kernel
theorem dX12_lie_70 : decode cX12_lie 70 = .ok (.lconst 0, 1) := by decide +kernel
theorem dX12_lie_71 : decode cX12_lie 71 = .ok (.goto 12, 3) := by decide +kernel
theorem dX12_lie_74 : decode cX12_lie 74 = .ok (.aload_n 0, 1) := by decide +kernel
theorem dX12_lie_75 : decode cX12_lie 75 = .ok (.aload_n 0, 1) := by decide +kernel
theorem dX12_lie_76 : decode cX12_lie 76 = .ok (.getfield 516, 3) := by decide +kernel
theorem dX12_lie_79 : decode cX12_lie 79 = .ok (.iload_n 1, 1) := by decide +kernel
theorem dX12_lie_80 : decode cX12_lie 80 = .ok (.invokevirtual 434, 3) := by decide +kernel
theorem dX12_lie_83 : decode cX12_lie 83 = .ok (.lstore 7, 2) := by decide +kernel
theorem dX12_lie_85 : decode cX12_lie 85 = .ok (.iload_n 2, 1) := by decide +kernel
theorem dX12_lie_86 : decode cX12_lie 86 = .ok (.iconst (-1), 1) := by decide +kernel
theorem dX12_lie_87 : decode cX12_lie 87 = .ok (.if_icmp .eq 13, 3) := by decide +kernel
theorem dX12_lie_90 : decode cX12_lie 90 = .ok (.lload 7, 2) := by decide +kernel
theorem dX12_lie_92 : decode cX12_lie 92 = .ok (.lload_n 3, 1) := by decide +kernel
theorem dX12_lie_93 : decode cX12_lie 93 = .ok (.lcmp, 1) := by decide +kernel
theorem dX12_lie_94 : decode cX12_lie 94 = .ok (.ifCond .gt 6, 3) := by decide +kernel
theorem dX12_lie_97 : decode cX12_lie 97 = .ok (.goto 9, 3) := by decide +kernel
theorem dX12_lie_100 : decode cX12_lie 100 = .ok (.iload 5, 2) := by decide +kernel
theorem dX12_lie_102 : decode cX12_lie 102 = .ok (.istore_n 2, 1) := by decide +kernel
theorem dX12_lie_103 : decode cX12_lie 103 = .ok (.lload 7, 2) := by decide +kernel
theorem dX12_lie_105 : decode cX12_lie 105 = .ok (.lstore_n 3, 1) := by decide +kernel
theorem dX12_lie_106 : decode cX12_lie 106 = .ok (.iinc 5 1, 3) := by decide +kernel
theorem dX12_lie_109 : decode cX12_lie 109 = .ok (.goto (-83), 3) := by decide +kernel
theorem dX12_lie_112 : decode cX12_lie 112 = .ok (.aload_n 0, 1) := by decide +kernel
theorem dX12_lie_113 : decode cX12_lie 113 = .ok (.iconst 1, 1) := by decide +kernel
theorem dX12_lie_114 : decode cX12_lie 114 = .ok (.putfield 342, 3) := by decide +kernel
theorem dX12_lie_117 : decode cX12_lie 117 = .ok (.aload_n 0, 1) := by decide +kernel
theorem dX12_lie_118 : decode cX12_lie 118 = .ok (.lload_n 3, 1) := by decide +kernel
theorem dX12_lie_119 : decode cX12_lie 119 = .ok (.putfield 573, 3) := by decide +kernel
theorem dX12_lie_122 : decode cX12_lie 122 = .ok (.iload_n 2, 1) := by decide +kernel
theorem dX12_lie_123 : decode cX12_lie 123 = .ok (.ireturn, 1) := by decide +kernel
theorem dX12_lied_0 : decode cX12_lied 0 = .ok (.aload_n 0, 1) := by decide +kernel
theorem dX12_lied_1 : decode cX12_lied 1 = .ok (.getfield 342, 3) := by decide +kernel
theorem dX12_lied_4 : decode cX12_lied 4 = .ok (.ifCond .eq 10, 3) := by decide +kernel
theorem dX12_lied_7 : decode cX12_lied 7 = .ok (.aload_n 0, 1) := by decide +kernel
theorem dX12_lied_8 : decode cX12_lied 8 = .ok (.getfield 573, 3) := by decide +kernel
theorem dX12_lied_11 : decode cX12_lied 11 = .ok (.goto 6, 3) := by decide +kernel
theorem dX12_lied_14 : decode cX12_lied 14 = .ok (.ldc2_w 441, 3) := by decide +kernel
theorem dX12_lied_17 : decode cX12_lied 17 = .ok (.lreturn, 1) := by decide +kernel
theorem dX12_writes_0 : decode cX12_writes 0 = .ok (.aload_n 0, 1) := by decide +kernel
theorem dX12_writes_1 : decode cX12_writes 1 = .ok (.getfield 160, 3) := by decide +kernel
theorem dX12_writes_4 : decode cX12_writes 4 = .ok (.aload_n 0, 1) := by decide +kernel
theorem dX12_writes_5 : decode cX12_writes 5 = .ok (.getfield 576, 3) := by decide +kernel
theorem dX12_writes_8 : decode cX12_writes 8 = .ok (.iload_n 1, 1) := by decide +kernel
theorem dX12_writes_9 : decode cX12_writes 9 = .ok (.sipush 255, 3) := by decide +kernel
theorem dX12_writes_12 : decode cX12_writes 12 = .ok (.iand, 1) := by decide +kernel
theorem dX12_writes_13 : decode cX12_writes 13 = .ok (.iastore, 1) := by decide +kernel
theorem dX12_writes_14 : decode cX12_writes 14 = .ok (.aload_n 0, 1) := by decide +kernel
theorem dX12_writes_15 : decode cX12_writes 15 = .ok (.dup, 1) := by decide +kernel
theorem dX12_writes_16 : decode cX12_writes 16 = .ok (.getfield 576, 3) := by decide +kernel
theorem dX12_writes_19 : decode cX12_writes 19 = .ok (.iconst 1, 1) := by decide +kernel
theorem dX12_writes_20 : decode cX12_writes 20 = .ok (.iadd, 1) := by decide +kernel
theorem dX12_writes_21 : decode cX12_writes 21 = .ok (.putfield 576, 3) := by decide +kernel
theorem dX12_writes_24 : decode cX12_writes 24 = .ok (.return_, 1) := by decide +kernel
theorem dX12_image_0 : decode cX12_image 0 = .ok (.aload_n 0, 1) := by decide +kernel
theorem dX12_image_1 : decode cX12_image 1 = .ok (.iconst 0, 1) := by decide +kernel
theorem dX12_image_2 : decode cX12_image 2 = .ok (.putfield 576, 3) := by decide +kernel
theorem dX12_image_5 : decode cX12_image 5 = .ok (.aload_n 0, 1) := by decide +kernel
theorem dX12_image_6 : decode cX12_image 6 = .ok (.aload_n 0, 1) := by decide +kernel
theorem dX12_image_7 : decode cX12_image 7 = .ok (.invokevirtual 345, 3) := by decide +kernel
theorem dX12_image_10 : decode cX12_image 10 = .ok (.invokevirtual 579, 3) := by decide +kernel
theorem dX12_image_13 : decode cX12_image 13 = .ok (.bipush 40, 2) := by decide +kernel
theorem dX12_image_15 : decode cX12_image 15 = .ok (.istore_n 1, 1) := by decide +kernel
theorem dX12_image_16 : decode cX12_image 16 = .ok (.iload_n 1, 1) := by decide +kernel
theorem dX12_image_17 : decode cX12_image 17 = .ok (.ifCond .lt 24, 3) := by decide +kernel
theorem dX12_image_20 : decode cX12_image 20 = .ok (.aload_n 0, 1) := by decide +kernel
theorem dX12_image_21 : decode cX12_image 21 = .ok (.aload_n 0, 1) := by decide +kernel
theorem dX12_image_22 : decode cX12_image 22 = .ok (.getfield 323, 3) := by decide +kernel
theorem dX12_image_25 : decode cX12_image 25 = .ok (.iload_n 1, 1) := by decide +kernel
theorem dX12_image_26 : decode cX12_image 26 = .ok (.lshr, 1) := by decide +kernel
theorem dX12_image_27 : decode cX12_image 27 = .ok (.ldc2_w 582, 3) := by decide +kernel
theorem dX12_image_30 : decode cX12_image 30 = .ok (.land, 1) := by decide +kernel
theorem dX12_image_31 : decode cX12_image 31 = .ok (.l2i, 1) := by decide +kernel
theorem dX12_image_32 : decode cX12_image 32 = .ok (.invokevirtual 579, 3) := by decide +kernel
theorem dX12_image_35 : decode cX12_image 35 = .ok (.iinc 1 (-8), 3) := by decide +kernel
theorem dX12_image_38 : decode cX12_image 38 = .ok (.goto (-22), 3) := by decide +kernel
theorem dX12_image_41 : decode cX12_image 41 = .ok (.aload_n 0, 1) := by decide +kernel
theorem dX12_image_42 : decode cX12_image 42 = .ok (.aload_n 0, 1) := by decide +kernel
theorem dX12_image_43 : decode cX12_image 43 = .ok (.getfield 326, 3) := by decide +kernel
theorem dX12_image_46 : decode cX12_image 46 = .ok (.sipush 1000, 3) := by decide +kernel
theorem dX12_image_49 : decode cX12_image 49 = .ok (.iadd, 1) := by decide +kernel
theorem dX12_image_50 : decode cX12_image 50 = .ok (.bipush 8, 2) := by decide +kernel
theorem dX12_image_52 : decode cX12_image 52 = .ok (.ishr, 1) := by decide +kernel
theorem dX12_image_53 : decode cX12_image 53 = .ok (.invokevirtual 579, 3) := by decide +kernel
theorem dX12_image_56 : decode cX12_image 56 = .ok (.aload_n 0, 1) := by decide +kernel
theorem dX12_image_57 : decode cX12_image 57 = .ok (.aload_n 0, 1) := by decide +kernel
theorem dX12_image_58 : decode cX12_image 58 = .ok (.getfield 326, 3) := by decide +kernel
theorem dX12_image_61 : decode cX12_image 61 = .ok (.sipush 1000, 3) := by decide +kernel
theorem dX12_image_64 : decode cX12_image 64 = .ok (.iadd, 1) := by decide +kernel
theorem dX12_image_65 : decode cX12_image 65 = .ok (.invokevirtual 579, 3) := by decide +kernel
theorem dX12_image_68 : decode cX12_image 68 = .ok (.iconst 0, 1) := by decide +kernel
theorem dX12_image_69 : decode cX12_image 69 = .ok (.istore_n 1, 1) := by decide +kernel
theorem dX12_image_70 : decode cX12_image 70 = .ok (.iconst 0, 1) := by decide +kernel
theorem dX12_image_71 : decode cX12_image 71 = .ok (.istore_n 2, 1) := by decide +kernel
theorem dX12_image_72 : decode cX12_image 72 = .ok (.iload_n 2, 1) := by decide +kernel
theorem dX12_image_73 : decode cX12_image 73 = .ok (.bipush 9, 2) := by decide +kernel
theorem dX12_image_75 : decode cX12_image 75 = .ok (.if_icmp .ge 18, 3) := by decide +kernel
theorem dX12_image_78 : decode cX12_image 78 = .ok (.iload_n 1, 1) := by decide +kernel
theorem dX12_image_79 : decode cX12_image 79 = .ok (.aload_n 0, 1) := by decide +kernel
theorem dX12_image_80 : decode cX12_image 80 = .ok (.getfield 160, 3) := by decide +kernel
theorem dX12_image_83 : decode cX12_image 83 = .ok (.iload_n 2, 1) := by decide +kernel
theorem dX12_image_84 : decode cX12_image 84 = .ok (.iaload, 1) := by decide +kernel
theorem dX12_image_85 : decode cX12_image 85 = .ok (.ixor, 1) := by decide +kernel
theorem dX12_image_86 : decode cX12_image 86 = .ok (.istore_n 1, 1) := by decide +kernel
theorem dX12_image_87 : decode cX12_image 87 = .ok (.iinc 2 1, 3) := by decide +kernel
theorem dX12_image_90 : decode cX12_image 90 = .ok (.goto (-18), 3) := by decide +kernel
theorem dX12_image_93 : decode cX12_image 93 = .ok (.aload_n 0, 1) := by decide +kernel
theorem dX12_image_94 : decode cX12_image 94 = .ok (.iload_n 1, 1) := by decide +kernel
theorem dX12_image_95 : decode cX12_image 95 = .ok (.invokevirtual 579, 3) := by decide +kernel
theorem dX12_image_98 : decode cX12_image 98 = .ok (.aload_n 0, 1) := by decide +kernel
theorem dX12_image_99 : decode cX12_image 99 = .ok (.getfield 576, 3) := by decide +kernel
theorem dX12_image_102 : decode cX12_image 102 = .ok (.ireturn, 1) := by decide +kernel
theorem dX12_octet_0 : decode cX12_octet 0 = .ok (.iload_n 1, 1) := by decide +kernel
theorem dX12_octet_1 : decode cX12_octet 1 = .ok (.ifCond .lt 20, 3) := by decide +kernel
theorem dX12_octet_4 : decode cX12_octet 4 = .ok (.iload_n 1, 1) := by decide +kernel
theorem dX12_octet_5 : decode cX12_octet 5 = .ok (.aload_n 0, 1) := by decide +kernel
theorem dX12_octet_6 : decode cX12_octet 6 = .ok (.getfield 576, 3) := by decide +kernel
theorem dX12_octet_9 : decode cX12_octet 9 = .ok (.if_icmp .ge 12, 3) := by decide +kernel
theorem dX12_octet_12 : decode cX12_octet 12 = .ok (.aload_n 0, 1) := by decide +kernel
theorem dX12_octet_13 : decode cX12_octet 13 = .ok (.getfield 160, 3) := by decide +kernel
theorem dX12_octet_16 : decode cX12_octet 16 = .ok (.iload_n 1, 1) := by decide +kernel
theorem dX12_octet_17 : decode cX12_octet 17 = .ok (.iaload, 1) := by decide +kernel
theorem dX12_octet_18 : decode cX12_octet 18 = .ok (.goto 4, 3) := by decide +kernel
theorem dX12_octet_21 : decode cX12_octet 21 = .ok (.iconst (-1), 1) := by decide +kernel
theorem dX12_octet_22 : decode cX12_octet 22 = .ok (.ireturn, 1) := by decide +kernel
theorem dX12_on_0 : decode cX12_on 0 = .ok (.aload_n 0, 1) := by decide +kernel
theorem dX12_on_1 : decode cX12_on 1 = .ok (.getfield 163, 3) := by decide +kernel
theorem dX12_on_4 : decode cX12_on 4 = .ok (.istore_n 1, 1) := by decide +kernel
theorem dX12_on_5 : decode cX12_on 5 = .ok (.aload_n 0, 1) := by decide +kernel
theorem dX12_on_6 : decode cX12_on 6 = .ok (.iconst 0, 1) := by decide +kernel
theorem dX12_on_7 : decode cX12_on 7 = .ok (.putfield 163, 3) := by decide +kernel
theorem dX12_on_10 : decode cX12_on 10 = .ok (.iload_n 1, 1) := by decide +kernel
theorem dX12_on_11 : decode cX12_on 11 = .ok (.bipush 10, 2) := by decide +kernel
theorem dX12_on_13 : decode cX12_on 13 = .ok (.if_icmp .ne 16, 3) := by decide +kernel
theorem dX12_on_16 : decode cX12_on 16 = .ok (.aload_n 0, 1) := by decide +kernel
theorem dX12_on_17 : decode cX12_on 17 = .ok (.getfield 7, 3) := by decide +kernel
theorem dX12_on_20 : decode cX12_on 20 = .ok (.iconst 0, 1) := by decide +kernel
theorem dX12_on_21 : decode cX12_on 21 = .ok (.iaload, 1) := by decide +kernel
theorem dX12_on_22 : decode cX12_on 22 = .ok (.aload_n 0, 1) := by decide +kernel
theorem dX12_on_23 : decode cX12_on 23 = .ok (.invokevirtual 345, 3) := by decide +kernel
theorem dX12_on_26 : decode cX12_on 26 = .ok (.if_icmp .eq 5, 3) := by decide +kernel
theorem dX12_on_29 : decode cX12_on 29 = .ok (.iconst 0, 1) := by decide +kernel
theorem dX12_on_30 : decode cX12_on 30 = .ok (.ireturn, 1) := by decide +kernel
theorem dX12_on_31 : decode cX12_on 31 = .ok (.iconst 0, 1) := by decide +kernel
theorem dX12_on_32 : decode cX12_on 32 = .ok (.istore_n 2, 1) := by decide +kernel
theorem dX12_on_33 : decode cX12_on 33 = .ok (.iconst 0, 1) := by decide +kernel
theorem dX12_on_34 : decode cX12_on 34 = .ok (.istore_n 3, 1) := by decide +kernel
theorem dX12_on_35 : decode cX12_on 35 = .ok (.iload_n 3, 1) := by decide +kernel
theorem dX12_on_36 : decode cX12_on 36 = .ok (.bipush 9, 2) := by decide +kernel
theorem dX12_on_38 : decode cX12_on 38 = .ok (.if_icmp .ge 18, 3) := by decide +kernel
theorem dX12_on_41 : decode cX12_on 41 = .ok (.iload_n 2, 1) := by decide +kernel
theorem dX12_on_42 : decode cX12_on 42 = .ok (.aload_n 0, 1) := by decide +kernel
theorem dX12_on_43 : decode cX12_on 43 = .ok (.getfield 7, 3) := by decide +kernel
theorem dX12_on_46 : decode cX12_on 46 = .ok (.iload_n 3, 1) := by decide +kernel
theorem dX12_on_47 : decode cX12_on 47 = .ok (.iaload, 1) := by decide +kernel
theorem dX12_on_48 : decode cX12_on 48 = .ok (.ixor, 1) := by decide +kernel
theorem dX12_on_49 : decode cX12_on 49 = .ok (.istore_n 2, 1) := by decide +kernel
theorem dX12_on_50 : decode cX12_on 50 = .ok (.iinc 3 1, 3) := by decide +kernel
theorem dX12_on_53 : decode cX12_on 53 = .ok (.goto (-18), 3) := by decide +kernel
theorem dX12_on_56 : decode cX12_on 56 = .ok (.lconst 0, 1) := by decide +kernel
theorem dX12_on_57 : decode cX12_on 57 = .ok (.lstore_n 3, 1) := by decide +kernel
theorem dX12_on_58 : decode cX12_on 58 = .ok (.iconst 1, 1) := by decide +kernel
theorem dX12_on_59 : decode cX12_on 59 = .ok (.istore 5, 2) := by decide +kernel
theorem dX12_on_61 : decode cX12_on 61 = .ok (.iload 5, 2) := by decide +kernel
theorem dX12_on_63 : decode cX12_on 63 = .ok (.bipush 7, 2) := by decide +kernel
theorem dX12_on_65 : decode cX12_on 65 = .ok (.if_icmp .ge 24, 3) := by decide +kernel
theorem dX12_on_68 : decode cX12_on 68 = .ok (.ldc2_w 514, 3) := by decide +kernel
theorem dX12_on_71 : decode cX12_on 71 = .ok (.lload_n 3, 1) := by decide +kernel
theorem dX12_on_72 : decode cX12_on 72 = .ok (.lmul, 1) := by decide +kernel
theorem dX12_on_73 : decode cX12_on 73 = .ok (.aload_n 0, 1) := by decide +kernel
theorem dX12_on_74 : decode cX12_on 74 = .ok (.getfield 7, 3) := by decide +kernel
theorem dX12_on_77 : decode cX12_on 77 = .ok (.iload 5, 2) := by decide +kernel
theorem dX12_on_79 : decode cX12_on 79 = .ok (.iaload, 1) := by decide +kernel
theorem dX12_on_80 : decode cX12_on 80 = .ok (.i2l, 1) := by decide +kernel
theorem dX12_on_81 : decode cX12_on 81 = .ok (.ladd, 1) := by decide +kernel
theorem dX12_on_82 : decode cX12_on 82 = .ok (.lstore_n 3, 1) := by decide +kernel
theorem dX12_on_83 : decode cX12_on 83 = .ok (.iinc 5 1, 3) := by decide +kernel
theorem dX12_on_86 : decode cX12_on 86 = .ok (.goto (-25), 3) := by decide +kernel
theorem dX12_on_89 : decode cX12_on 89 = .ok (.sipush 256, 3) := by decide +kernel
theorem dX12_on_92 : decode cX12_on 92 = .ok (.aload_n 0, 1) := by decide +kernel
theorem dX12_on_93 : decode cX12_on 93 = .ok (.getfield 7, 3) := by decide +kernel
theorem dX12_on_96 : decode cX12_on 96 = .ok (.bipush 7, 2) := by decide +kernel
theorem dX12_on_98 : decode cX12_on 98 = .ok (.iaload, 1) := by decide +kernel
theorem dX12_on_99 : decode cX12_on 99 = .ok (.imul, 1) := by decide +kernel
theorem dX12_on_100 : decode cX12_on 100 = .ok (.aload_n 0, 1) := by decide +kernel
theorem dX12_on_101 : decode cX12_on 101 = .ok (.getfield 7, 3) := by decide +kernel
theorem dX12_on_104 : decode cX12_on 104 = .ok (.bipush 8, 2) := by decide +kernel
theorem dX12_on_106 : decode cX12_on 106 = .ok (.iaload, 1) := by decide +kernel
theorem dX12_on_107 : decode cX12_on 107 = .ok (.iadd, 1) := by decide +kernel
theorem dX12_on_108 : decode cX12_on 108 = .ok (.sipush 1000, 3) := by decide +kernel
theorem dX12_on_111 : decode cX12_on 111 = .ok (.isub, 1) := by decide +kernel
theorem dX12_on_112 : decode cX12_on 112 = .ok (.istore 5, 2) := by decide +kernel
theorem dX12_on_114 : decode cX12_on 114 = .ok (.aload_n 0, 1) := by decide +kernel
theorem dX12_on_115 : decode cX12_on 115 = .ok (.getfield 7, 3) := by decide +kernel
theorem dX12_on_118 : decode cX12_on 118 = .ok (.bipush 9, 2) := by decide +kernel
theorem dX12_on_120 : decode cX12_on 120 = .ok (.iaload, 1) := by decide +kernel
theorem dX12_on_121 : decode cX12_on 121 = .ok (.iload_n 2, 1) := by decide +kernel
theorem dX12_on_122 : decode cX12_on 122 = .ok (.if_icmp .ne 26, 3) := by decide +kernel
theorem dX12_on_125 : decode cX12_on 125 = .ok (.aload_n 0, 1) := by decide +kernel
theorem dX12_on_126 : decode cX12_on 126 = .ok (.lload_n 3, 1) := by decide +kernel
theorem dX12_on_127 : decode cX12_on 127 = .ok (.invokevirtual 370, 3) := by decide +kernel
theorem dX12_on_130 : decode cX12_on 130 = .ok (.ifCond .eq 18, 3) := by decide +kernel
theorem dX12_on_133 : decode cX12_on 133 = .ok (.iload 5, 2) := by decide +kernel
theorem dX12_on_135 : decode cX12_on 135 = .ok (.i2l, 1) := by decide +kernel
theorem dX12_on_136 : decode cX12_on 136 = .ok (.ldc2_w 385, 3) := by decide +kernel
theorem dX12_on_139 : decode cX12_on 139 = .ok (.ldc2_w 387, 3) := by decide +kernel
theorem dX12_on_142 : decode cX12_on 142 = .ok (.invokestatic 206, 3) := by decide +kernel
theorem dX12_on_145 : decode cX12_on 145 = .ok (.ifCond .ne 5, 3) := by decide +kernel
theorem dX12_on_148 : decode cX12_on 148 = .ok (.iconst 0, 1) := by decide +kernel
theorem dX12_on_149 : decode cX12_on 149 = .ok (.ireturn, 1) := by decide +kernel
theorem dX12_on_150 : decode cX12_on 150 = .ok (.aload_n 0, 1) := by decide +kernel
theorem dX12_on_151 : decode cX12_on 151 = .ok (.lload_n 3, 1) := by decide +kernel
theorem dX12_on_152 : decode cX12_on 152 = .ok (.putfield 323, 3) := by decide +kernel
theorem dX12_on_155 : decode cX12_on 155 = .ok (.aload_n 0, 1) := by decide +kernel
theorem dX12_on_156 : decode cX12_on 156 = .ok (.iload 5, 2) := by decide +kernel
theorem dX12_on_158 : decode cX12_on 158 = .ok (.putfield 326, 3) := by decide +kernel
theorem dX12_on_161 : decode cX12_on 161 = .ok (.iconst 1, 1) := by decide +kernel
theorem dX12_on_162 : decode cX12_on 162 = .ok (.ireturn, 1) := by decide +kernel
theorem dJ6_bitCount_0f7a4_0 : decode cJ6_bitCount_0f7a4 0 = .ok (.iload_n 0, 1) := by decide +kernel
theorem dJ6_bitCount_0f7a4_1 : decode cJ6_bitCount_0f7a4 1 = .ok (.iload_n 0, 1) := by decide +kernel
theorem dJ6_bitCount_0f7a4_2 : decode cJ6_bitCount_0f7a4 2 = .ok (.iconst 1, 1) := by decide +kernel
theorem dJ6_bitCount_0f7a4_3 : decode cJ6_bitCount_0f7a4 3 = .ok (.iushr, 1) := by decide +kernel
theorem dJ6_bitCount_0f7a4_4 : decode cJ6_bitCount_0f7a4 4 = .ok (.ldc_w 265, 3) := by decide +kernel
theorem dJ6_bitCount_0f7a4_7 : decode cJ6_bitCount_0f7a4 7 = .ok (.iand, 1) := by decide +kernel
theorem dJ6_bitCount_0f7a4_8 : decode cJ6_bitCount_0f7a4 8 = .ok (.isub, 1) := by decide +kernel
theorem dJ6_bitCount_0f7a4_9 : decode cJ6_bitCount_0f7a4 9 = .ok (.istore_n 0, 1) := by decide +kernel
theorem dJ6_bitCount_0f7a4_10 : decode cJ6_bitCount_0f7a4 10 = .ok (.iload_n 0, 1) := by decide +kernel
theorem dJ6_bitCount_0f7a4_11 : decode cJ6_bitCount_0f7a4 11 = .ok (.ldc_w 266, 3) := by decide +kernel
theorem dJ6_bitCount_0f7a4_14 : decode cJ6_bitCount_0f7a4 14 = .ok (.iand, 1) := by decide +kernel
theorem dJ6_bitCount_0f7a4_15 : decode cJ6_bitCount_0f7a4 15 = .ok (.iload_n 0, 1) := by decide +kernel
theorem dJ6_bitCount_0f7a4_16 : decode cJ6_bitCount_0f7a4 16 = .ok (.iconst 2, 1) := by decide +kernel
theorem dJ6_bitCount_0f7a4_17 : decode cJ6_bitCount_0f7a4 17 = .ok (.iushr, 1) := by decide +kernel
theorem dJ6_bitCount_0f7a4_18 : decode cJ6_bitCount_0f7a4 18 = .ok (.ldc_w 266, 3) := by decide +kernel
theorem dJ6_bitCount_0f7a4_21 : decode cJ6_bitCount_0f7a4 21 = .ok (.iand, 1) := by decide +kernel
theorem dJ6_bitCount_0f7a4_22 : decode cJ6_bitCount_0f7a4 22 = .ok (.iadd, 1) := by decide +kernel
theorem dJ6_bitCount_0f7a4_23 : decode cJ6_bitCount_0f7a4 23 = .ok (.istore_n 0, 1) := by decide +kernel
theorem dJ6_bitCount_0f7a4_24 : decode cJ6_bitCount_0f7a4 24 = .ok (.iload_n 0, 1) := by decide +kernel
theorem dJ6_bitCount_0f7a4_25 : decode cJ6_bitCount_0f7a4 25 = .ok (.iload_n 0, 1) := by decide +kernel
theorem dJ6_bitCount_0f7a4_26 : decode cJ6_bitCount_0f7a4 26 = .ok (.iconst 4, 1) := by decide +kernel
theorem dJ6_bitCount_0f7a4_27 : decode cJ6_bitCount_0f7a4 27 = .ok (.iushr, 1) := by decide +kernel
theorem dJ6_bitCount_0f7a4_28 : decode cJ6_bitCount_0f7a4 28 = .ok (.iadd, 1) := by decide +kernel
theorem dJ6_bitCount_0f7a4_29 : decode cJ6_bitCount_0f7a4 29 = .ok (.ldc_w 267, 3) := by decide +kernel
theorem dJ6_bitCount_0f7a4_32 : decode cJ6_bitCount_0f7a4 32 = .ok (.iand, 1) := by decide +kernel
theorem dJ6_bitCount_0f7a4_33 : decode cJ6_bitCount_0f7a4 33 = .ok (.istore_n 0, 1) := by decide +kernel
theorem dJ6_bitCount_0f7a4_34 : decode cJ6_bitCount_0f7a4 34 = .ok (.iload_n 0, 1) := by decide +kernel
theorem dJ6_bitCount_0f7a4_35 : decode cJ6_bitCount_0f7a4 35 = .ok (.iload_n 0, 1) := by decide +kernel
theorem dJ6_bitCount_0f7a4_36 : decode cJ6_bitCount_0f7a4 36 = .ok (.bipush 8, 2) := by decide +kernel
theorem dJ6_bitCount_0f7a4_38 : decode cJ6_bitCount_0f7a4 38 = .ok (.iushr, 1) := by decide +kernel
theorem dJ6_bitCount_0f7a4_39 : decode cJ6_bitCount_0f7a4 39 = .ok (.iadd, 1) := by decide +kernel
theorem dJ6_bitCount_0f7a4_40 : decode cJ6_bitCount_0f7a4 40 = .ok (.istore_n 0, 1) := by decide +kernel
theorem dJ6_bitCount_0f7a4_41 : decode cJ6_bitCount_0f7a4 41 = .ok (.iload_n 0, 1) := by decide +kernel
theorem dJ6_bitCount_0f7a4_42 : decode cJ6_bitCount_0f7a4 42 = .ok (.iload_n 0, 1) := by decide +kernel
theorem dJ6_bitCount_0f7a4_43 : decode cJ6_bitCount_0f7a4 43 = .ok (.bipush 16, 2) := by decide +kernel
theorem dJ6_bitCount_0f7a4_45 : decode cJ6_bitCount_0f7a4 45 = .ok (.iushr, 1) := by decide +kernel
theorem dJ6_bitCount_0f7a4_46 : decode cJ6_bitCount_0f7a4 46 = .ok (.iadd, 1) := by decide +kernel
theorem dJ6_bitCount_0f7a4_47 : decode cJ6_bitCount_0f7a4 47 = .ok (.istore_n 0, 1) := by decide +kernel
theorem dJ6_bitCount_0f7a4_48 : decode cJ6_bitCount_0f7a4 48 = .ok (.iload_n 0, 1) := by decide +kernel
theorem dJ6_bitCount_0f7a4_49 : decode cJ6_bitCount_0f7a4 49 = .ok (.bipush 63, 2) := by decide +kernel
theorem dJ6_bitCount_0f7a4_51 : decode cJ6_bitCount_0f7a4 51 = .ok (.iand, 1) := by decide +kernel
theorem dJ6_bitCount_0f7a4_52 : decode cJ6_bitCount_0f7a4 52 = .ok (.ireturn, 1) := by decide +kernel
theorem dJ13_bitCount_95d88_0 : decode cJ13_bitCount_95d88 0 = .ok (.lload_n 0, 1) := by decide +kernel
theorem dJ13_bitCount_95d88_1 : decode cJ13_bitCount_95d88 1 = .ok (.lload_n 0, 1) := by decide +kernel
theorem dJ13_bitCount_95d88_2 : decode cJ13_bitCount_95d88 2 = .ok (.iconst 1, 1) := by decide +kernel
theorem dJ13_bitCount_95d88_3 : decode cJ13_bitCount_95d88 3 = .ok (.lushr, 1) := by decide +kernel
theorem dJ13_bitCount_95d88_4 : decode cJ13_bitCount_95d88 4 = .ok (.ldc2_w 314, 3) := by decide +kernel
theorem dJ13_bitCount_95d88_7 : decode cJ13_bitCount_95d88 7 = .ok (.land, 1) := by decide +kernel
theorem dJ13_bitCount_95d88_8 : decode cJ13_bitCount_95d88 8 = .ok (.lsub, 1) := by decide +kernel
theorem dJ13_bitCount_95d88_9 : decode cJ13_bitCount_95d88 9 = .ok (.lstore_n 0, 1) := by decide +kernel
theorem dJ13_bitCount_95d88_10 : decode cJ13_bitCount_95d88 10 = .ok (.lload_n 0, 1) := by decide +kernel
theorem dJ13_bitCount_95d88_11 : decode cJ13_bitCount_95d88 11 = .ok (.ldc2_w 316, 3) := by decide +kernel
theorem dJ13_bitCount_95d88_14 : decode cJ13_bitCount_95d88 14 = .ok (.land, 1) := by decide +kernel
theorem dJ13_bitCount_95d88_15 : decode cJ13_bitCount_95d88 15 = .ok (.lload_n 0, 1) := by decide +kernel
theorem dJ13_bitCount_95d88_16 : decode cJ13_bitCount_95d88 16 = .ok (.iconst 2, 1) := by decide +kernel
theorem dJ13_bitCount_95d88_17 : decode cJ13_bitCount_95d88 17 = .ok (.lushr, 1) := by decide +kernel
theorem dJ13_bitCount_95d88_18 : decode cJ13_bitCount_95d88 18 = .ok (.ldc2_w 316, 3) := by decide +kernel
theorem dJ13_bitCount_95d88_21 : decode cJ13_bitCount_95d88 21 = .ok (.land, 1) := by decide +kernel
theorem dJ13_bitCount_95d88_22 : decode cJ13_bitCount_95d88 22 = .ok (.ladd, 1) := by decide +kernel
theorem dJ13_bitCount_95d88_23 : decode cJ13_bitCount_95d88 23 = .ok (.lstore_n 0, 1) := by decide +kernel
theorem dJ13_bitCount_95d88_24 : decode cJ13_bitCount_95d88 24 = .ok (.lload_n 0, 1) := by decide +kernel
theorem dJ13_bitCount_95d88_25 : decode cJ13_bitCount_95d88 25 = .ok (.lload_n 0, 1) := by decide +kernel
theorem dJ13_bitCount_95d88_26 : decode cJ13_bitCount_95d88 26 = .ok (.iconst 4, 1) := by decide +kernel
theorem dJ13_bitCount_95d88_27 : decode cJ13_bitCount_95d88 27 = .ok (.lushr, 1) := by decide +kernel
theorem dJ13_bitCount_95d88_28 : decode cJ13_bitCount_95d88 28 = .ok (.ladd, 1) := by decide +kernel
theorem dJ13_bitCount_95d88_29 : decode cJ13_bitCount_95d88 29 = .ok (.ldc2_w 318, 3) := by decide +kernel
theorem dJ13_bitCount_95d88_32 : decode cJ13_bitCount_95d88 32 = .ok (.land, 1) := by decide +kernel
theorem dJ13_bitCount_95d88_33 : decode cJ13_bitCount_95d88 33 = .ok (.lstore_n 0, 1) := by decide +kernel
theorem dJ13_bitCount_95d88_34 : decode cJ13_bitCount_95d88 34 = .ok (.lload_n 0, 1) := by decide +kernel
theorem dJ13_bitCount_95d88_35 : decode cJ13_bitCount_95d88 35 = .ok (.lload_n 0, 1) := by decide +kernel
theorem dJ13_bitCount_95d88_36 : decode cJ13_bitCount_95d88 36 = .ok (.bipush 8, 2) := by decide +kernel
theorem dJ13_bitCount_95d88_38 : decode cJ13_bitCount_95d88 38 = .ok (.lushr, 1) := by decide +kernel
theorem dJ13_bitCount_95d88_39 : decode cJ13_bitCount_95d88 39 = .ok (.ladd, 1) := by decide +kernel
theorem dJ13_bitCount_95d88_40 : decode cJ13_bitCount_95d88 40 = .ok (.lstore_n 0, 1) := by decide +kernel
theorem dJ13_bitCount_95d88_41 : decode cJ13_bitCount_95d88 41 = .ok (.lload_n 0, 1) := by decide +kernel
theorem dJ13_bitCount_95d88_42 : decode cJ13_bitCount_95d88 42 = .ok (.lload_n 0, 1) := by decide +kernel
theorem dJ13_bitCount_95d88_43 : decode cJ13_bitCount_95d88 43 = .ok (.bipush 16, 2) := by decide +kernel
theorem dJ13_bitCount_95d88_45 : decode cJ13_bitCount_95d88 45 = .ok (.lushr, 1) := by decide +kernel
theorem dJ13_bitCount_95d88_46 : decode cJ13_bitCount_95d88 46 = .ok (.ladd, 1) := by decide +kernel
theorem dJ13_bitCount_95d88_47 : decode cJ13_bitCount_95d88 47 = .ok (.lstore_n 0, 1) := by decide +kernel
theorem dJ13_bitCount_95d88_48 : decode cJ13_bitCount_95d88 48 = .ok (.lload_n 0, 1) := by decide +kernel
theorem dJ13_bitCount_95d88_49 : decode cJ13_bitCount_95d88 49 = .ok (.lload_n 0, 1) := by decide +kernel
theorem dJ13_bitCount_95d88_50 : decode cJ13_bitCount_95d88 50 = .ok (.bipush 32, 2) := by decide +kernel
theorem dJ13_bitCount_95d88_52 : decode cJ13_bitCount_95d88 52 = .ok (.lushr, 1) := by decide +kernel
theorem dJ13_bitCount_95d88_53 : decode cJ13_bitCount_95d88 53 = .ok (.ladd, 1) := by decide +kernel
theorem dJ13_bitCount_95d88_54 : decode cJ13_bitCount_95d88 54 = .ok (.lstore_n 0, 1) := by decide +kernel
theorem dJ13_bitCount_95d88_55 : decode cJ13_bitCount_95d88 55 = .ok (.lload_n 0, 1) := by decide +kernel
theorem dJ13_bitCount_95d88_56 : decode cJ13_bitCount_95d88 56 = .ok (.l2i, 1) := by decide +kernel
theorem dJ13_bitCount_95d88_57 : decode cJ13_bitCount_95d88 57 = .ok (.bipush 127, 2) := by decide +kernel
theorem dJ13_bitCount_95d88_59 : decode cJ13_bitCount_95d88 59 = .ok (.iand, 1) := by decide +kernel
theorem dJ13_bitCount_95d88_60 : decode cJ13_bitCount_95d88 60 = .ok (.ireturn, 1) := by decide +kernel
theorem dJ9_abs_0f7a4_0 : decode cJ9_abs_0f7a4 0 = .ok (.iload_n 0, 1) := by decide +kernel
theorem dJ9_abs_0f7a4_1 : decode cJ9_abs_0f7a4 1 = .ok (.ifCond .ge 8, 3) := by decide +kernel
theorem dJ9_abs_0f7a4_4 : decode cJ9_abs_0f7a4 4 = .ok (.iload_n 0, 1) := by decide +kernel
theorem dJ9_abs_0f7a4_5 : decode cJ9_abs_0f7a4 5 = .ok (.ineg, 1) := by decide +kernel
theorem dJ9_abs_0f7a4_6 : decode cJ9_abs_0f7a4 6 = .ok (.goto 4, 3) := by decide +kernel
theorem dJ9_abs_0f7a4_9 : decode cJ9_abs_0f7a4 9 = .ok (.iload_n 0, 1) := by decide +kernel
theorem dJ9_abs_0f7a4_10 : decode cJ9_abs_0f7a4 10 = .ok (.ireturn, 1) := by decide +kernel
theorem dJ9_max_7cf53_0 : decode cJ9_max_7cf53 0 = .ok (.iload_n 0, 1) := by decide +kernel
theorem dJ9_max_7cf53_1 : decode cJ9_max_7cf53 1 = .ok (.iload_n 1, 1) := by decide +kernel
theorem dJ9_max_7cf53_2 : decode cJ9_max_7cf53 2 = .ok (.if_icmp .lt 7, 3) := by decide +kernel
theorem dJ9_max_7cf53_5 : decode cJ9_max_7cf53 5 = .ok (.iload_n 0, 1) := by decide +kernel
theorem dJ9_max_7cf53_6 : decode cJ9_max_7cf53 6 = .ok (.goto 4, 3) := by decide +kernel
theorem dJ9_max_7cf53_9 : decode cJ9_max_7cf53 9 = .ok (.iload_n 1, 1) := by decide +kernel
theorem dJ9_max_7cf53_10 : decode cJ9_max_7cf53 10 = .ok (.ireturn, 1) := by decide +kernel
theorem dJ9_max_f86c9_0 : decode cJ9_max_f86c9 0 = .ok (.lload_n 0, 1) := by decide +kernel
theorem dJ9_max_f86c9_1 : decode cJ9_max_f86c9 1 = .ok (.lload_n 2, 1) := by decide +kernel
theorem dJ9_max_f86c9_2 : decode cJ9_max_f86c9 2 = .ok (.lcmp, 1) := by decide +kernel
theorem dJ9_max_f86c9_3 : decode cJ9_max_f86c9 3 = .ok (.ifCond .lt 7, 3) := by decide +kernel
theorem dJ9_max_f86c9_6 : decode cJ9_max_f86c9 6 = .ok (.lload_n 0, 1) := by decide +kernel
theorem dJ9_max_f86c9_7 : decode cJ9_max_f86c9 7 = .ok (.goto 4, 3) := by decide +kernel
theorem dJ9_max_f86c9_10 : decode cJ9_max_f86c9 10 = .ok (.lload_n 2, 1) := by decide +kernel
theorem dJ9_max_f86c9_11 : decode cJ9_max_f86c9 11 = .ok (.lreturn, 1) := by decide +kernel
theorem dJ9_min_7cf53_0 : decode cJ9_min_7cf53 0 = .ok (.iload_n 0, 1) := by decide +kernel
theorem dJ9_min_7cf53_1 : decode cJ9_min_7cf53 1 = .ok (.iload_n 1, 1) := by decide +kernel
theorem dJ9_min_7cf53_2 : decode cJ9_min_7cf53 2 = .ok (.if_icmp .gt 7, 3) := by decide +kernel
theorem dJ9_min_7cf53_5 : decode cJ9_min_7cf53 5 = .ok (.iload_n 0, 1) := by decide +kernel
theorem dJ9_min_7cf53_6 : decode cJ9_min_7cf53 6 = .ok (.goto 4, 3) := by decide +kernel
theorem dJ9_min_7cf53_9 : decode cJ9_min_7cf53 9 = .ok (.iload_n 1, 1) := by decide +kernel
theorem dJ9_min_7cf53_10 : decode cJ9_min_7cf53 10 = .ok (.ireturn, 1) := by decide +kernel
theorem dJ9_min_f86c9_0 : decode cJ9_min_f86c9 0 = .ok (.lload_n 0, 1) := by decide +kernel
theorem dJ9_min_f86c9_1 : decode cJ9_min_f86c9 1 = .ok (.lload_n 2, 1) := by decide +kernel
theorem dJ9_min_f86c9_2 : decode cJ9_min_f86c9 2 = .ok (.lcmp, 1) := by decide +kernel
theorem dJ9_min_f86c9_3 : decode cJ9_min_f86c9 3 = .ok (.ifCond .gt 7, 3) := by decide +kernel
theorem dJ9_min_f86c9_6 : decode cJ9_min_f86c9 6 = .ok (.lload_n 0, 1) := by decide +kernel
theorem dJ9_min_f86c9_7 : decode cJ9_min_f86c9 7 = .ok (.goto 4, 3) := by decide +kernel
theorem dJ9_min_f86c9_10 : decode cJ9_min_f86c9 10 = .ok (.lload_n 2, 1) := by decide +kernel
theorem dJ9_min_f86c9_11 : decode cJ9_min_f86c9 11 = .ok (.lreturn, 1) := by decide +kernel
theorem dJ0_length_8abf5_0 : decode cJ0_length_8abf5 0 = .ok (.aload_n 0, 1) := by decide +kernel
theorem dJ0_length_8abf5_1 : decode cJ0_length_8abf5 1 = .ok (.getfield 9, 3) := by decide +kernel
theorem dJ0_length_8abf5_4 : decode cJ0_length_8abf5 4 = .ok (.arraylength, 1) := by decide +kernel
theorem dJ0_length_8abf5_5 : decode cJ0_length_8abf5 5 = .ok (.aload_n 0, 1) := by decide +kernel
theorem dJ0_length_8abf5_6 : decode cJ0_length_8abf5 6 = .ok (.invokevirtual 335, 3) := by decide +kernel
theorem dJ0_length_8abf5_9 : decode cJ0_length_8abf5 9 = .ok (.ishr, 1) := by decide +kernel
theorem dJ0_length_8abf5_10 : decode cJ0_length_8abf5 10 = .ok (.ireturn, 1) := by decide +kernel
theorem dJ0_charAt_5068e_0 : decode cJ0_charAt_5068e 0 = .ok (.aload_n 0, 1) := by decide +kernel
theorem dJ0_charAt_5068e_1 : decode cJ0_charAt_5068e 1 = .ok (.invokevirtual 492, 3) := by decide +kernel
theorem dJ0_charAt_5068e_4 : decode cJ0_charAt_5068e 4 = .ok (.ifCond .eq 12, 3) := by decide +kernel
theorem dJ0_charAt_5068e_7 : decode cJ0_charAt_5068e 7 = .ok (.aload_n 0, 1) := by decide +kernel
theorem dJ0_charAt_5068e_8 : decode cJ0_charAt_5068e 8 = .ok (.getfield 9, 3) := by decide +kernel
theorem dJ0_charAt_5068e_11 : decode cJ0_charAt_5068e 11 = .ok (.iload_n 1, 1) := by decide +kernel
theorem dJ0_charAt_5068e_12 : decode cJ0_charAt_5068e 12 = .ok (.invokestatic 495, 3) := by decide +kernel
theorem dJ0_charAt_5068e_15 : decode cJ0_charAt_5068e 15 = .ok (.ireturn, 1) := by decide +kernel
theorem dJ0_charAt_5068e_16 : decode cJ0_charAt_5068e 16 = .ok (.aload_n 0, 1) := by decide +kernel
theorem dJ0_charAt_5068e_17 : decode cJ0_charAt_5068e 17 = .ok (.getfield 9, 3) := by decide +kernel
theorem dJ0_charAt_5068e_20 : decode cJ0_charAt_5068e 20 = .ok (.iload_n 1, 1) := by decide +kernel
theorem dJ0_charAt_5068e_21 : decode cJ0_charAt_5068e 21 = .ok (.invokestatic 498, 3) := by decide +kernel
theorem dJ0_charAt_5068e_24 : decode cJ0_charAt_5068e 24 = .ok (.ireturn, 1) := by decide +kernel
theorem dJ0_coder_7d493_0 : decode cJ0_coder_7d493 0 = .ok (.getstatic 38, 3) := by decide +kernel
theorem dJ0_coder_7d493_3 : decode cJ0_coder_7d493 3 = .ok (.ifCond .eq 10, 3) := by decide +kernel
theorem dJ0_coder_7d493_6 : decode cJ0_coder_7d493 6 = .ok (.aload_n 0, 1) := by decide +kernel
theorem dJ0_coder_7d493_7 : decode cJ0_coder_7d493 7 = .ok (.getfield 15, 3) := by decide +kernel
theorem dJ0_coder_7d493_10 : decode cJ0_coder_7d493 10 = .ok (.goto 4, 3) := by decide +kernel
theorem dJ0_coder_7d493_13 : decode cJ0_coder_7d493 13 = .ok (.iconst 1, 1) := by decide +kernel
theorem dJ0_coder_7d493_14 : decode cJ0_coder_7d493 14 = .ok (.ireturn, 1) := by decide +kernel
theorem dJ0_isLatin1_aae02_0 : decode cJ0_isLatin1_aae02 0 = .ok (.getstatic 38, 3) := by decide +kernel
theorem dJ0_isLatin1_aae02_3 : decode cJ0_isLatin1_aae02 3 = .ok (.ifCond .eq 14, 3) := by decide +kernel
theorem dJ0_isLatin1_aae02_6 : decode cJ0_isLatin1_aae02 6 = .ok (.aload_n 0, 1) := by decide +kernel
theorem dJ0_isLatin1_aae02_7 : decode cJ0_isLatin1_aae02 7 = .ok (.getfield 15, 3) := by decide +kernel
theorem dJ0_isLatin1_aae02_10 : decode cJ0_isLatin1_aae02 10 = .ok (.ifCond .ne 7, 3) := by decide +kernel
theorem dJ0_isLatin1_aae02_13 : decode cJ0_isLatin1_aae02 13 = .ok (.iconst 1, 1) := by decide +kernel
theorem dJ0_isLatin1_aae02_14 : decode cJ0_isLatin1_aae02 14 = .ok (.goto 4, 3) := by decide +kernel
theorem dJ0_isLatin1_aae02_17 : decode cJ0_isLatin1_aae02 17 = .ok (.iconst 0, 1) := by decide +kernel
theorem dJ0_isLatin1_aae02_18 : decode cJ0_isLatin1_aae02 18 = .ok (.ireturn, 1) := by decide +kernel
theorem dJ0_checkIndex_df160_0 : decode cJ0_checkIndex_df160 0 = .ok (.iload_n 0, 1) := by decide +kernel
theorem dJ0_checkIndex_df160_1 : decode cJ0_checkIndex_df160 1 = .ok (.iload_n 1, 1) := by decide +kernel
theorem dJ0_checkIndex_df160_2 : decode cJ0_checkIndex_df160 2 = .ok (.getstatic 1053, 3) := by decide +kernel
theorem dJ0_checkIndex_df160_5 : decode cJ0_checkIndex_df160 5 = .ok (.invokestatic 1059, 3) := by decide +kernel
theorem dJ0_checkIndex_df160_8 : decode cJ0_checkIndex_df160 8 = .ok (.pop, 1) := by decide +kernel
theorem dJ0_checkIndex_df160_9 : decode cJ0_checkIndex_df160 9 = .ok (.return_, 1) := by decide +kernel
theorem dJ1_charAt_3b067_0 : decode cJ1_charAt_3b067 0 = .ok (.iload_n 1, 1) := by decide +kernel
theorem dJ1_charAt_3b067_1 : decode cJ1_charAt_3b067 1 = .ok (.aload_n 0, 1) := by decide +kernel
theorem dJ1_charAt_3b067_2 : decode cJ1_charAt_3b067 2 = .ok (.arraylength, 1) := by decide +kernel
theorem dJ1_charAt_3b067_3 : decode cJ1_charAt_3b067 3 = .ok (.invokestatic 9, 3) := by decide +kernel
theorem dJ1_charAt_3b067_6 : decode cJ1_charAt_3b067 6 = .ok (.aload_n 0, 1) := by decide +kernel
theorem dJ1_charAt_3b067_7 : decode cJ1_charAt_3b067 7 = .ok (.iload_n 1, 1) := by decide +kernel
theorem dJ1_charAt_3b067_8 : decode cJ1_charAt_3b067 8 = .ok (.baload, 1) := by decide +kernel
theorem dJ1_charAt_3b067_9 : decode cJ1_charAt_3b067 9 = .ok (.sipush 255, 3) := by decide +kernel
theorem dJ1_charAt_3b067_12 : decode cJ1_charAt_3b067 12 = .ok (.iand, 1) := by decide +kernel
theorem dJ1_charAt_3b067_13 : decode cJ1_charAt_3b067 13 = .ok (.i2c, 1) := by decide +kernel
theorem dJ1_charAt_3b067_14 : decode cJ1_charAt_3b067 14 = .ok (.ireturn, 1) := by decide +kernel
theorem dJ2_getChar_3b067_0 : decode cJ2_getChar_3b067 0 = .ok (.getstatic 44, 3) := by decide +kernel
theorem dJ2_getChar_3b067_3 : decode cJ2_getChar_3b067 3 = .ok (.ifCond .ne 25, 3) := by decide +kernel
theorem dJ2_getChar_3b067_6 : decode cJ2_getChar_3b067 6 = .ok (.iload_n 1, 1) := by decide +kernel
theorem dJ2_getChar_3b067_7 : decode cJ2_getChar_3b067 7 = .ok (.ifCond .lt 11, 3) := by decide +kernel
theorem dJ2_getChar_3b067_10 : decode cJ2_getChar_3b067 10 = .ok (.iload_n 1, 1) := by decide +kernel
theorem dJ2_getChar_3b067_11 : decode cJ2_getChar_3b067 11 = .ok (.aload_n 0, 1) := by decide +kernel
theorem dJ2_getChar_3b067_12 : decode cJ2_getChar_3b067 12 = .ok (.invokestatic 48, 3) := by decide +kernel
theorem dJ2_getChar_3b067_15 : decode cJ2_getChar_3b067 15 = .ok (.if_icmp .lt 13, 3) := by decide +kernel
theorem dJ2_getChar_3b067_18 : decode cJ2_getChar_3b067 18 = .ok (.new 52, 3) := by decide +kernel
theorem dJ2_getChar_3b067_21 : decode cJ2_getChar_3b067 21 = .ok (.dup, 1) := by decide +kernel
theorem dJ2_getChar_3b067_22 : decode cJ2_getChar_3b067 22 = .ok (.ldc 54, 2) := by decide +kernel
theorem dJ2_getChar_3b067_24 : decode cJ2_getChar_3b067 24 = .ok (.invokespecial 56, 3) := by decide +kernel
theorem dJ2_getChar_3b067_27 : decode cJ2_getChar_3b067 27 = .ok (.athrow, 1) := by decide +kernel
theorem dJ2_getChar_3b067_28 : decode cJ2_getChar_3b067 28 = .ok (.iload_n 1, 1) := by decide +kernel
theorem dJ2_getChar_3b067_29 : decode cJ2_getChar_3b067 29 = .ok (.iconst 1, 1) := by decide +kernel
theorem dJ2_getChar_3b067_30 : decode cJ2_getChar_3b067 30 = .ok (.ishl, 1) := by decide +kernel
theorem dJ2_getChar_3b067_31 : decode cJ2_getChar_3b067 31 = .ok (.istore_n 1, 1) := by decide +kernel
theorem dJ2_getChar_3b067_32 : decode cJ2_getChar_3b067 32 = .ok (.aload_n 0, 1) := by decide +kernel
theorem dJ2_getChar_3b067_33 : decode cJ2_getChar_3b067 33 = .ok (.iload_n 1, 1) := by decide +kernel
theorem dJ2_getChar_3b067_34 : decode cJ2_getChar_3b067 34 = .ok (.iinc 1 1, 3) := by decide +kernel
theorem dJ2_getChar_3b067_37 : decode cJ2_getChar_3b067 37 = .ok (.baload, 1) := by decide +kernel
theorem dJ2_getChar_3b067_38 : decode cJ2_getChar_3b067 38 = .ok (.sipush 255, 3) := by decide +kernel
theorem dJ2_getChar_3b067_41 : decode cJ2_getChar_3b067 41 = .ok (.iand, 1) := by decide +kernel
theorem dJ2_getChar_3b067_42 : decode cJ2_getChar_3b067 42 = .ok (.getstatic 59, 3) := by decide +kernel
theorem dJ2_getChar_3b067_45 : decode cJ2_getChar_3b067 45 = .ok (.ishl, 1) := by decide +kernel
theorem dJ2_getChar_3b067_46 : decode cJ2_getChar_3b067 46 = .ok (.aload_n 0, 1) := by decide +kernel
theorem dJ2_getChar_3b067_47 : decode cJ2_getChar_3b067 47 = .ok (.iload_n 1, 1) := by decide +kernel
theorem dJ2_getChar_3b067_48 : decode cJ2_getChar_3b067 48 = .ok (.baload, 1) := by decide +kernel
theorem dJ2_getChar_3b067_49 : decode cJ2_getChar_3b067 49 = .ok (.sipush 255, 3) := by decide +kernel
theorem dJ2_getChar_3b067_52 : decode cJ2_getChar_3b067 52 = .ok (.iand, 1) := by decide +kernel
theorem dJ2_getChar_3b067_53 : decode cJ2_getChar_3b067 53 = .ok (.getstatic 63, 3) := by decide +kernel
theorem dJ2_getChar_3b067_56 : decode cJ2_getChar_3b067 56 = .ok (.ishl, 1) := by decide +kernel
theorem dJ2_getChar_3b067_57 : decode cJ2_getChar_3b067 57 = .ok (.ior, 1) := by decide +kernel
theorem dJ2_getChar_3b067_58 : decode cJ2_getChar_3b067 58 = .ok (.i2c, 1) := by decide +kernel
theorem dJ2_getChar_3b067_59 : decode cJ2_getChar_3b067 59 = .ok (.ireturn, 1) := by decide +kernel
theorem dJ2_length_9d52b_0 : decode cJ2_length_9d52b 0 = .ok (.aload_n 0, 1) := by decide +kernel
theorem dJ2_length_9d52b_1 : decode cJ2_length_9d52b 1 = .ok (.arraylength, 1) := by decide +kernel
theorem dJ2_length_9d52b_2 : decode cJ2_length_9d52b 2 = .ok (.iconst 1, 1) := by decide +kernel
theorem dJ2_length_9d52b_3 : decode cJ2_length_9d52b 3 = .ok (.ishr, 1) := by decide +kernel
theorem dJ2_length_9d52b_4 : decode cJ2_length_9d52b 4 = .ok (.ireturn, 1) := by decide +kernel
theorem dJ2_charAt_3b067_0 : decode cJ2_charAt_3b067 0 = .ok (.iload_n 1, 1) := by decide +kernel
theorem dJ2_charAt_3b067_1 : decode cJ2_charAt_3b067 1 = .ok (.aload_n 0, 1) := by decide +kernel
theorem dJ2_charAt_3b067_2 : decode cJ2_charAt_3b067 2 = .ok (.invokestatic 67, 3) := by decide +kernel
theorem dJ2_charAt_3b067_5 : decode cJ2_charAt_3b067 5 = .ok (.aload_n 0, 1) := by decide +kernel
theorem dJ2_charAt_3b067_6 : decode cJ2_charAt_3b067 6 = .ok (.iload_n 1, 1) := by decide +kernel
theorem dJ2_charAt_3b067_7 : decode cJ2_charAt_3b067 7 = .ok (.invokestatic 71, 3) := by decide +kernel
theorem dJ2_charAt_3b067_10 : decode cJ2_charAt_3b067 10 = .ok (.ireturn, 1) := by decide +kernel
theorem dJ2_checkIndex_2214a_0 : decode cJ2_checkIndex_2214a 0 = .ok (.iload_n 0, 1) := by decide +kernel
theorem dJ2_checkIndex_2214a_1 : decode cJ2_checkIndex_2214a 1 = .ok (.aload_n 1, 1) := by decide +kernel
theorem dJ2_checkIndex_2214a_2 : decode cJ2_checkIndex_2214a 2 = .ok (.invokestatic 48, 3) := by decide +kernel
theorem dJ2_checkIndex_2214a_5 : decode cJ2_checkIndex_2214a 5 = .ok (.invokestatic 414, 3) := by decide +kernel
theorem dJ2_checkIndex_2214a_8 : decode cJ2_checkIndex_2214a 8 = .ok (.return_, 1) := by decide +kernel
theorem dJ7_fill_d0a16_0 : decode cJ7_fill_d0a16 0 = .ok (.iconst 0, 1) := by decide +kernel
theorem dJ7_fill_d0a16_1 : decode cJ7_fill_d0a16 1 = .ok (.istore_n 3, 1) := by decide +kernel
theorem dJ7_fill_d0a16_2 : decode cJ7_fill_d0a16 2 = .ok (.aload_n 0, 1) := by decide +kernel
theorem dJ7_fill_d0a16_3 : decode cJ7_fill_d0a16 3 = .ok (.arraylength, 1) := by decide +kernel
theorem dJ7_fill_d0a16_4 : decode cJ7_fill_d0a16 4 = .ok (.istore 4, 2) := by decide +kernel
theorem dJ7_fill_d0a16_6 : decode cJ7_fill_d0a16 6 = .ok (.iload_n 3, 1) := by decide +kernel
theorem dJ7_fill_d0a16_7 : decode cJ7_fill_d0a16 7 = .ok (.iload 4, 2) := by decide +kernel
theorem dJ7_fill_d0a16_9 : decode cJ7_fill_d0a16 9 = .ok (.if_icmp .ge 13, 3) := by decide +kernel
theorem dJ7_fill_d0a16_12 : decode cJ7_fill_d0a16 12 = .ok (.aload_n 0, 1) := by decide +kernel
theorem dJ7_fill_d0a16_13 : decode cJ7_fill_d0a16 13 = .ok (.iload_n 3, 1) := by decide +kernel
theorem dJ7_fill_d0a16_14 : decode cJ7_fill_d0a16 14 = .ok (.lload_n 1, 1) := by decide +kernel
theorem dJ7_fill_d0a16_15 : decode cJ7_fill_d0a16 15 = .ok (.lastore, 1) := by decide +kernel
theorem dJ7_fill_d0a16_16 : decode cJ7_fill_d0a16 16 = .ok (.iinc 3 1, 3) := by decide +kernel
theorem dJ7_fill_d0a16_19 : decode cJ7_fill_d0a16 19 = .ok (.goto (-13), 3) := by decide +kernel
theorem dJ7_fill_d0a16_22 : decode cJ7_fill_d0a16 22 = .ok (.return_, 1) := by decide +kernel
theorem dJ7_fill_53178_0 : decode cJ7_fill_53178 0 = .ok (.iconst 0, 1) := by decide +kernel
theorem dJ7_fill_53178_1 : decode cJ7_fill_53178 1 = .ok (.istore_n 2, 1) := by decide +kernel
theorem dJ7_fill_53178_2 : decode cJ7_fill_53178 2 = .ok (.aload_n 0, 1) := by decide +kernel
theorem dJ7_fill_53178_3 : decode cJ7_fill_53178 3 = .ok (.arraylength, 1) := by decide +kernel
theorem dJ7_fill_53178_4 : decode cJ7_fill_53178 4 = .ok (.istore_n 3, 1) := by decide +kernel
theorem dJ7_fill_53178_5 : decode cJ7_fill_53178 5 = .ok (.iload_n 2, 1) := by decide +kernel
theorem dJ7_fill_53178_6 : decode cJ7_fill_53178 6 = .ok (.iload_n 3, 1) := by decide +kernel
theorem dJ7_fill_53178_7 : decode cJ7_fill_53178 7 = .ok (.if_icmp .ge 13, 3) := by decide +kernel
theorem dJ7_fill_53178_10 : decode cJ7_fill_53178 10 = .ok (.aload_n 0, 1) := by decide +kernel
theorem dJ7_fill_53178_11 : decode cJ7_fill_53178 11 = .ok (.iload_n 2, 1) := by decide +kernel
theorem dJ7_fill_53178_12 : decode cJ7_fill_53178 12 = .ok (.iload_n 1, 1) := by decide +kernel
theorem dJ7_fill_53178_13 : decode cJ7_fill_53178 13 = .ok (.iastore, 1) := by decide +kernel
theorem dJ7_fill_53178_14 : decode cJ7_fill_53178 14 = .ok (.iinc 2 1, 3) := by decide +kernel
theorem dJ7_fill_53178_17 : decode cJ7_fill_53178 17 = .ok (.goto (-12), 3) := by decide +kernel
theorem dJ7_fill_53178_20 : decode cJ7_fill_53178 20 = .ok (.return_, 1) := by decide +kernel
theorem dJ3_checkIndex_8e157_0 : decode cJ3_checkIndex_8e157 0 = .ok (.iload_n 0, 1) := by decide +kernel
theorem dJ3_checkIndex_8e157_1 : decode cJ3_checkIndex_8e157 1 = .ok (.ifCond .lt 8, 3) := by decide +kernel
theorem dJ3_checkIndex_8e157_4 : decode cJ3_checkIndex_8e157 4 = .ok (.iload_n 0, 1) := by decide +kernel
theorem dJ3_checkIndex_8e157_5 : decode cJ3_checkIndex_8e157 5 = .ok (.iload_n 1, 1) := by decide +kernel
theorem dJ3_checkIndex_8e157_6 : decode cJ3_checkIndex_8e157 6 = .ok (.if_icmp .lt 10, 3) := by decide +kernel
theorem dJ3_checkIndex_8e157_9 : decode cJ3_checkIndex_8e157 9 = .ok (.aload_n 2, 1) := by decide +kernel
theorem dJ3_checkIndex_8e157_10 : decode cJ3_checkIndex_8e157 10 = .ok (.iload_n 0, 1) := by decide +kernel
theorem dJ3_checkIndex_8e157_11 : decode cJ3_checkIndex_8e157 11 = .ok (.iload_n 1, 1) := by decide +kernel
theorem dJ3_checkIndex_8e157_12 : decode cJ3_checkIndex_8e157 12 = .ok (.invokestatic 95, 3) := by decide +kernel
theorem dJ3_checkIndex_8e157_15 : decode cJ3_checkIndex_8e157 15 = .ok (.athrow, 1) := by decide +kernel
theorem dJ3_checkIndex_8e157_16 : decode cJ3_checkIndex_8e157 16 = .ok (.iload_n 0, 1) := by decide +kernel
theorem dJ3_checkIndex_8e157_17 : decode cJ3_checkIndex_8e157 17 = .ok (.ireturn, 1) := by decide +kernel
theorem dL_law_0 : decode cL_law 0 = .ok (.new 7, 3) := by decide +kernel
theorem dL_law_3 : decode cL_law 3 = .ok (.dup, 1) := by decide +kernel
theorem dL_law_4 : decode cL_law 4 = .ok (.invokespecial 9, 3) := by decide +kernel
theorem dL_law_7 : decode cL_law 7 = .ok (.astore_n 1, 1) := by decide +kernel
theorem dL_law_8 : decode cL_law 8 = .ok (.new 10, 3) := by decide +kernel
theorem dL_law_11 : decode cL_law 11 = .ok (.dup, 1) := by decide +kernel
theorem dL_law_12 : decode cL_law 12 = .ok (.invokespecial 12, 3) := by decide +kernel
theorem dL_law_15 : decode cL_law 15 = .ok (.astore_n 2, 1) := by decide +kernel
theorem dL_law_16 : decode cL_law 16 = .ok (.iconst 0, 1) := by decide +kernel
theorem dL_law_17 : decode cL_law 17 = .ok (.istore_n 3, 1) := by decide +kernel
theorem dL_law_18 : decode cL_law 18 = .ok (.iload_n 3, 1) := by decide +kernel
theorem dL_law_19 : decode cL_law 19 = .ok (.aload_n 0, 1) := by decide +kernel
theorem dL_law_20 : decode cL_law 20 = .ok (.arraylength, 1) := by decide +kernel
theorem dL_law_21 : decode cL_law 21 = .ok (.bipush 6, 2) := by decide +kernel
theorem dL_law_23 : decode cL_law 23 = .ok (.isub, 1) := by decide +kernel
theorem dL_law_24 : decode cL_law 24 = .ok (.if_icmp .gt 1103, 3) := by decide +kernel
theorem dL_law_27 : decode cL_law 27 = .ok (.aload_n 0, 1) := by decide +kernel
theorem dL_law_28 : decode cL_law 28 = .ok (.iload_n 3, 1) := by decide +kernel
theorem dL_law_29 : decode cL_law 29 = .ok (.iaload, 1) := by decide +kernel
theorem dL_law_30 : decode cL_law 30 = .ok (.bipush 31, 2) := by decide +kernel
theorem dL_law_32 : decode cL_law 32 = .ok (.iand, 1) := by decide +kernel
theorem dL_law_33 : decode cL_law 33 = .ok (.tableswitch 1088 0 31 #[143, 206, 229, 242, 265, 288, 321, 374, 388, 422, 445, 469, 502, 525, 549, 572, 585, 609, 658, 682, 696, 746, 759, 809, 833, 893, 933, 1002, 1025, 1039, 1052, 1075], 143) := by decide +kernel
theorem dL_law_176 : decode cL_law 176 = .ok (.aload_n 1, 1) := by decide +kernel
theorem dL_law_177 : decode cL_law 177 = .ok (.aload_n 0, 1) := by decide +kernel
theorem dL_law_178 : decode cL_law 178 = .ok (.iload_n 3, 1) := by decide +kernel
theorem dL_law_179 : decode cL_law 179 = .ok (.iconst 1, 1) := by decide +kernel
theorem dL_law_180 : decode cL_law 180 = .ok (.iadd, 1) := by decide +kernel
theorem dL_law_181 : decode cL_law 181 = .ok (.iaload, 1) := by decide +kernel
theorem dL_law_182 : decode cL_law 182 = .ok (.aload_n 0, 1) := by decide +kernel
theorem dL_law_183 : decode cL_law 183 = .ok (.iload_n 3, 1) := by decide +kernel
theorem dL_law_184 : decode cL_law 184 = .ok (.iconst 2, 1) := by decide +kernel
theorem dL_law_185 : decode cL_law 185 = .ok (.iadd, 1) := by decide +kernel
theorem dL_law_186 : decode cL_law 186 = .ok (.iaload, 1) := by decide +kernel
theorem dL_law_187 : decode cL_law 187 = .ok (.aload_n 0, 1) := by decide +kernel
theorem dL_law_188 : decode cL_law 188 = .ok (.iload_n 3, 1) := by decide +kernel
theorem dL_law_189 : decode cL_law 189 = .ok (.iconst 3, 1) := by decide +kernel
theorem dL_law_190 : decode cL_law 190 = .ok (.iadd, 1) := by decide +kernel
theorem dL_law_191 : decode cL_law 191 = .ok (.iaload, 1) := by decide +kernel
theorem dL_law_192 : decode cL_law 192 = .ok (.aload_n 0, 1) := by decide +kernel
theorem dL_law_193 : decode cL_law 193 = .ok (.iload_n 3, 1) := by decide +kernel
theorem dL_law_194 : decode cL_law 194 = .ok (.iconst 4, 1) := by decide +kernel
theorem dL_law_195 : decode cL_law 195 = .ok (.iadd, 1) := by decide +kernel
theorem dL_law_196 : decode cL_law 196 = .ok (.iaload, 1) := by decide +kernel
theorem dL_law_197 : decode cL_law 197 = .ok (.aload_n 0, 1) := by decide +kernel
theorem dL_law_198 : decode cL_law 198 = .ok (.iload_n 3, 1) := by decide +kernel
theorem dL_law_199 : decode cL_law 199 = .ok (.iconst 5, 1) := by decide +kernel
theorem dL_law_200 : decode cL_law 200 = .ok (.iadd, 1) := by decide +kernel
theorem dL_law_201 : decode cL_law 201 = .ok (.iaload, 1) := by decide +kernel
theorem dL_law_202 : decode cL_law 202 = .ok (.invokevirtual 13, 3) := by decide +kernel
theorem dL_law_205 : decode cL_law 205 = .ok (.aload_n 2, 1) := by decide +kernel
theorem dL_law_206 : decode cL_law 206 = .ok (.aload_n 0, 1) := by decide +kernel
theorem dL_law_207 : decode cL_law 207 = .ok (.iload_n 3, 1) := by decide +kernel
theorem dL_law_208 : decode cL_law 208 = .ok (.iconst 1, 1) := by decide +kernel
theorem dL_law_209 : decode cL_law 209 = .ok (.iadd, 1) := by decide +kernel
theorem dL_law_210 : decode cL_law 210 = .ok (.iaload, 1) := by decide +kernel
theorem dL_law_211 : decode cL_law 211 = .ok (.aload_n 0, 1) := by decide +kernel
theorem dL_law_212 : decode cL_law 212 = .ok (.iload_n 3, 1) := by decide +kernel
theorem dL_law_213 : decode cL_law 213 = .ok (.iconst 2, 1) := by decide +kernel
theorem dL_law_214 : decode cL_law 214 = .ok (.iadd, 1) := by decide +kernel
theorem dL_law_215 : decode cL_law 215 = .ok (.iaload, 1) := by decide +kernel
theorem dL_law_216 : decode cL_law 216 = .ok (.aload_n 0, 1) := by decide +kernel
theorem dL_law_217 : decode cL_law 217 = .ok (.iload_n 3, 1) := by decide +kernel
theorem dL_law_218 : decode cL_law 218 = .ok (.iconst 3, 1) := by decide +kernel
theorem dL_law_219 : decode cL_law 219 = .ok (.iadd, 1) := by decide +kernel
theorem dL_law_220 : decode cL_law 220 = .ok (.iaload, 1) := by decide +kernel
theorem dL_law_221 : decode cL_law 221 = .ok (.aload_n 0, 1) := by decide +kernel
theorem dL_law_222 : decode cL_law 222 = .ok (.iload_n 3, 1) := by decide +kernel
theorem dL_law_223 : decode cL_law 223 = .ok (.iconst 4, 1) := by decide +kernel
theorem dL_law_224 : decode cL_law 224 = .ok (.iadd, 1) := by decide +kernel
theorem dL_law_225 : decode cL_law 225 = .ok (.iaload, 1) := by decide +kernel
theorem dL_law_226 : decode cL_law 226 = .ok (.aload_n 0, 1) := by decide +kernel
theorem dL_law_227 : decode cL_law 227 = .ok (.iload_n 3, 1) := by decide +kernel
theorem dL_law_228 : decode cL_law 228 = .ok (.iconst 5, 1) := by decide +kernel
theorem dL_law_229 : decode cL_law 229 = .ok (.iadd, 1) := by decide +kernel
theorem dL_law_230 : decode cL_law 230 = .ok (.iaload, 1) := by decide +kernel
theorem dL_law_231 : decode cL_law 231 = .ok (.invokevirtual 17, 3) := by decide +kernel
theorem dL_law_234 : decode cL_law 234 = .ok (.if_icmp .eq 887, 3) := by decide +kernel
theorem dL_law_237 : decode cL_law 237 = .ok (.iconst 0, 1) := by decide +kernel
theorem dL_law_238 : decode cL_law 238 = .ok (.ireturn, 1) := by decide +kernel
theorem dL_law_239 : decode cL_law 239 = .ok (.aload_n 1, 1) := by decide +kernel
theorem dL_law_240 : decode cL_law 240 = .ok (.aload_n 0, 1) := by decide +kernel
theorem dL_law_241 : decode cL_law 241 = .ok (.iload_n 3, 1) := by decide +kernel
theorem dL_law_242 : decode cL_law 242 = .ok (.iconst 1, 1) := by decide +kernel
theorem dL_law_243 : decode cL_law 243 = .ok (.iadd, 1) := by decide +kernel
theorem dL_law_244 : decode cL_law 244 = .ok (.iaload, 1) := by decide +kernel
theorem dL_law_245 : decode cL_law 245 = .ok (.invokevirtual 18, 3) := by decide +kernel
theorem dL_law_248 : decode cL_law 248 = .ok (.aload_n 2, 1) := by decide +kernel
theorem dL_law_249 : decode cL_law 249 = .ok (.aload_n 0, 1) := by decide +kernel
theorem dL_law_250 : decode cL_law 250 = .ok (.iload_n 3, 1) := by decide +kernel
theorem dL_law_251 : decode cL_law 251 = .ok (.iconst 1, 1) := by decide +kernel
theorem dL_law_252 : decode cL_law 252 = .ok (.iadd, 1) := by decide +kernel
theorem dL_law_253 : decode cL_law 253 = .ok (.iaload, 1) := by decide +kernel
theorem dL_law_254 : decode cL_law 254 = .ok (.invokevirtual 22, 3) := by decide +kernel
theorem dL_law_257 : decode cL_law 257 = .ok (.if_icmp .eq 864, 3) := by decide +kernel
theorem dL_law_260 : decode cL_law 260 = .ok (.iconst 0, 1) := by decide +kernel
theorem dL_law_261 : decode cL_law 261 = .ok (.ireturn, 1) := by decide +kernel
theorem dL_law_262 : decode cL_law 262 = .ok (.aload_n 1, 1) := by decide +kernel
theorem dL_law_263 : decode cL_law 263 = .ok (.invokevirtual 23, 3) := by decide +kernel
theorem dL_law_266 : decode cL_law 266 = .ok (.aload_n 2, 1) := by decide +kernel
theorem dL_law_267 : decode cL_law 267 = .ok (.invokevirtual 27, 3) := by decide +kernel
theorem dL_law_270 : decode cL_law 270 = .ok (.if_icmp .eq 851, 3) := by decide +kernel
theorem dL_law_273 : decode cL_law 273 = .ok (.iconst 0, 1) := by decide +kernel
theorem dL_law_274 : decode cL_law 274 = .ok (.ireturn, 1) := by decide +kernel
theorem dL_law_275 : decode cL_law 275 = .ok (.aload_n 1, 1) := by decide +kernel
theorem dL_law_276 : decode cL_law 276 = .ok (.aload_n 0, 1) := by decide +kernel
theorem dL_law_277 : decode cL_law 277 = .ok (.iload_n 3, 1) := by decide +kernel
theorem dL_law_278 : decode cL_law 278 = .ok (.iconst 1, 1) := by decide +kernel
theorem dL_law_279 : decode cL_law 279 = .ok (.iadd, 1) := by decide +kernel
theorem dL_law_280 : decode cL_law 280 = .ok (.iaload, 1) := by decide +kernel
theorem dL_law_281 : decode cL_law 281 = .ok (.invokevirtual 28, 3) := by decide +kernel
theorem dL_law_284 : decode cL_law 284 = .ok (.aload_n 2, 1) := by decide +kernel
theorem dL_law_285 : decode cL_law 285 = .ok (.aload_n 0, 1) := by decide +kernel
theorem dL_law_286 : decode cL_law 286 = .ok (.iload_n 3, 1) := by decide +kernel
theorem dL_law_287 : decode cL_law 287 = .ok (.iconst 1, 1) := by decide +kernel
theorem dL_law_288 : decode cL_law 288 = .ok (.iadd, 1) := by decide +kernel
theorem dL_law_289 : decode cL_law 289 = .ok (.iaload, 1) := by decide +kernel
theorem dL_law_290 : decode cL_law 290 = .ok (.invokevirtual 32, 3) := by decide +kernel
theorem dL_law_293 : decode cL_law 293 = .ok (.if_icmp .eq 828, 3) := by decide +kernel
theorem dL_law_296 : decode cL_law 296 = .ok (.iconst 0, 1) := by decide +kernel
theorem dL_law_297 : decode cL_law 297 = .ok (.ireturn, 1) := by decide +kernel
theorem dL_law_298 : decode cL_law 298 = .ok (.aload_n 1, 1) := by decide +kernel
theorem dL_law_299 : decode cL_law 299 = .ok (.aload_n 0, 1) := by decide +kernel
theorem dL_law_300 : decode cL_law 300 = .ok (.iload_n 3, 1) := by decide +kernel
theorem dL_law_301 : decode cL_law 301 = .ok (.iconst 1, 1) := by decide +kernel
theorem dL_law_302 : decode cL_law 302 = .ok (.iadd, 1) := by decide +kernel
theorem dL_law_303 : decode cL_law 303 = .ok (.iaload, 1) := by decide +kernel
theorem dL_law_304 : decode cL_law 304 = .ok (.invokevirtual 33, 3) := by decide +kernel
theorem dL_law_307 : decode cL_law 307 = .ok (.aload_n 2, 1) := by decide +kernel
theorem dL_law_308 : decode cL_law 308 = .ok (.aload_n 0, 1) := by decide +kernel
theorem dL_law_309 : decode cL_law 309 = .ok (.iload_n 3, 1) := by decide +kernel
theorem dL_law_310 : decode cL_law 310 = .ok (.iconst 1, 1) := by decide +kernel
theorem dL_law_311 : decode cL_law 311 = .ok (.iadd, 1) := by decide +kernel
theorem dL_law_312 : decode cL_law 312 = .ok (.iaload, 1) := by decide +kernel
theorem dL_law_313 : decode cL_law 313 = .ok (.invokevirtual 36, 3) := by decide +kernel
theorem dL_law_316 : decode cL_law 316 = .ok (.if_icmp .eq 805, 3) := by decide +kernel
theorem dL_law_319 : decode cL_law 319 = .ok (.iconst 0, 1) := by decide +kernel
theorem dL_law_320 : decode cL_law 320 = .ok (.ireturn, 1) := by decide +kernel
theorem dL_law_321 : decode cL_law 321 = .ok (.aload_n 1, 1) := by decide +kernel
theorem dL_law_322 : decode cL_law 322 = .ok (.aload_n 0, 1) := by decide +kernel
theorem dL_law_323 : decode cL_law 323 = .ok (.iload_n 3, 1) := by decide +kernel
theorem dL_law_324 : decode cL_law 324 = .ok (.iconst 1, 1) := by decide +kernel
theorem dL_law_325 : decode cL_law 325 = .ok (.iadd, 1) := by decide +kernel
theorem dL_law_326 : decode cL_law 326 = .ok (.iaload, 1) := by decide +kernel
theorem dL_law_327 : decode cL_law 327 = .ok (.aload_n 0, 1) := by decide +kernel
theorem dL_law_328 : decode cL_law 328 = .ok (.iload_n 3, 1) := by decide +kernel
theorem dL_law_329 : decode cL_law 329 = .ok (.iconst 2, 1) := by decide +kernel
theorem dL_law_330 : decode cL_law 330 = .ok (.iadd, 1) := by decide +kernel
theorem dL_law_331 : decode cL_law 331 = .ok (.iaload, 1) := by decide +kernel
theorem dL_law_332 : decode cL_law 332 = .ok (.invokevirtual 37, 3) := by decide +kernel
theorem dL_law_335 : decode cL_law 335 = .ok (.aload_n 2, 1) := by decide +kernel
theorem dL_law_336 : decode cL_law 336 = .ok (.aload_n 0, 1) := by decide +kernel
theorem dL_law_337 : decode cL_law 337 = .ok (.iload_n 3, 1) := by decide +kernel
theorem dL_law_338 : decode cL_law 338 = .ok (.iconst 1, 1) := by decide +kernel
theorem dL_law_339 : decode cL_law 339 = .ok (.iadd, 1) := by decide +kernel
theorem dL_law_340 : decode cL_law 340 = .ok (.iaload, 1) := by decide +kernel
theorem dL_law_341 : decode cL_law 341 = .ok (.aload_n 0, 1) := by decide +kernel
theorem dL_law_342 : decode cL_law 342 = .ok (.iload_n 3, 1) := by decide +kernel
theorem dL_law_343 : decode cL_law 343 = .ok (.iconst 2, 1) := by decide +kernel
theorem dL_law_344 : decode cL_law 344 = .ok (.iadd, 1) := by decide +kernel
theorem dL_law_345 : decode cL_law 345 = .ok (.iaload, 1) := by decide +kernel
theorem dL_law_346 : decode cL_law 346 = .ok (.invokevirtual 41, 3) := by decide +kernel
theorem dL_law_349 : decode cL_law 349 = .ok (.if_icmp .eq 772, 3) := by decide +kernel
theorem dL_law_352 : decode cL_law 352 = .ok (.iconst 0, 1) := by decide +kernel
theorem dL_law_353 : decode cL_law 353 = .ok (.ireturn, 1) := by decide +kernel
theorem dL_law_354 : decode cL_law 354 = .ok (.aload_n 1, 1) := by decide +kernel
theorem dL_law_355 : decode cL_law 355 = .ok (.aload_n 0, 1) := by decide +kernel
theorem dL_law_356 : decode cL_law 356 = .ok (.iload_n 3, 1) := by decide +kernel
theorem dL_law_357 : decode cL_law 357 = .ok (.iconst 1, 1) := by decide +kernel
theorem dL_law_358 : decode cL_law 358 = .ok (.iadd, 1) := by decide +kernel
theorem dL_law_359 : decode cL_law 359 = .ok (.iaload, 1) := by decide +kernel
theorem dL_law_360 : decode cL_law 360 = .ok (.i2l, 1) := by decide +kernel
theorem dL_law_361 : decode cL_law 361 = .ok (.bipush 32, 2) := by decide +kernel
theorem dL_law_363 : decode cL_law 363 = .ok (.lshl, 1) := by decide +kernel
theorem dL_law_364 : decode cL_law 364 = .ok (.aload_n 0, 1) := by decide +kernel
theorem dL_law_365 : decode cL_law 365 = .ok (.iload_n 3, 1) := by decide +kernel
theorem dL_law_366 : decode cL_law 366 = .ok (.iconst 2, 1) := by decide +kernel
theorem dL_law_367 : decode cL_law 367 = .ok (.iadd, 1) := by decide +kernel
theorem dL_law_368 : decode cL_law 368 = .ok (.iaload, 1) := by decide +kernel
theorem dL_law_369 : decode cL_law 369 = .ok (.i2l, 1) := by decide +kernel
theorem dL_law_370 : decode cL_law 370 = .ok (.ldc2_w 42, 3) := by decide +kernel
theorem dL_law_373 : decode cL_law 373 = .ok (.land, 1) := by decide +kernel
theorem dL_law_374 : decode cL_law 374 = .ok (.lor, 1) := by decide +kernel
theorem dL_law_375 : decode cL_law 375 = .ok (.invokevirtual 44, 3) := by decide +kernel
theorem dL_law_378 : decode cL_law 378 = .ok (.aload_n 2, 1) := by decide +kernel
theorem dL_law_379 : decode cL_law 379 = .ok (.aload_n 0, 1) := by decide +kernel
theorem dL_law_380 : decode cL_law 380 = .ok (.iload_n 3, 1) := by decide +kernel
theorem dL_law_381 : decode cL_law 381 = .ok (.iconst 1, 1) := by decide +kernel
theorem dL_law_382 : decode cL_law 382 = .ok (.iadd, 1) := by decide +kernel
theorem dL_law_383 : decode cL_law 383 = .ok (.iaload, 1) := by decide +kernel
theorem dL_law_384 : decode cL_law 384 = .ok (.i2l, 1) := by decide +kernel
theorem dL_law_385 : decode cL_law 385 = .ok (.bipush 32, 2) := by decide +kernel
theorem dL_law_387 : decode cL_law 387 = .ok (.lshl, 1) := by decide +kernel
theorem dL_law_388 : decode cL_law 388 = .ok (.aload_n 0, 1) := by decide +kernel
theorem dL_law_389 : decode cL_law 389 = .ok (.iload_n 3, 1) := by decide +kernel
theorem dL_law_390 : decode cL_law 390 = .ok (.iconst 2, 1) := by decide +kernel
theorem dL_law_391 : decode cL_law 391 = .ok (.iadd, 1) := by decide +kernel
theorem dL_law_392 : decode cL_law 392 = .ok (.iaload, 1) := by decide +kernel
theorem dL_law_393 : decode cL_law 393 = .ok (.i2l, 1) := by decide +kernel
theorem dL_law_394 : decode cL_law 394 = .ok (.ldc2_w 42, 3) := by decide +kernel
theorem dL_law_397 : decode cL_law 397 = .ok (.land, 1) := by decide +kernel
theorem dL_law_398 : decode cL_law 398 = .ok (.lor, 1) := by decide +kernel
theorem dL_law_399 : decode cL_law 399 = .ok (.invokevirtual 48, 3) := by decide +kernel
theorem dL_law_402 : decode cL_law 402 = .ok (.if_icmp .eq 719, 3) := by decide +kernel
theorem dL_law_405 : decode cL_law 405 = .ok (.iconst 0, 1) := by decide +kernel
theorem dL_law_406 : decode cL_law 406 = .ok (.ireturn, 1) := by decide +kernel
theorem dL_law_407 : decode cL_law 407 = .ok (.aload_n 1, 1) := by decide +kernel
theorem dL_law_408 : decode cL_law 408 = .ok (.invokevirtual 49, 3) := by decide +kernel
theorem dL_law_411 : decode cL_law 411 = .ok (.aload_n 2, 1) := by decide +kernel
theorem dL_law_412 : decode cL_law 412 = .ok (.invokevirtual 52, 3) := by decide +kernel
theorem dL_law_415 : decode cL_law 415 = .ok (.lcmp, 1) := by decide +kernel
theorem dL_law_416 : decode cL_law 416 = .ok (.ifCond .eq 705, 3) := by decide +kernel
theorem dL_law_419 : decode cL_law 419 = .ok (.iconst 0, 1) := by decide +kernel
theorem dL_law_420 : decode cL_law 420 = .ok (.ireturn, 1) := by decide +kernel
theorem dL_law_421 : decode cL_law 421 = .ok (.aload_n 1, 1) := by decide +kernel
theorem dL_law_422 : decode cL_law 422 = .ok (.aload_n 0, 1) := by decide +kernel
theorem dL_law_423 : decode cL_law 423 = .ok (.iload_n 3, 1) := by decide +kernel
theorem dL_law_424 : decode cL_law 424 = .ok (.iconst 1, 1) := by decide +kernel
theorem dL_law_425 : decode cL_law 425 = .ok (.iadd, 1) := by decide +kernel
theorem dL_law_426 : decode cL_law 426 = .ok (.iaload, 1) := by decide +kernel
theorem dL_law_427 : decode cL_law 427 = .ok (.aload_n 0, 1) := by decide +kernel
theorem dL_law_428 : decode cL_law 428 = .ok (.iload_n 3, 1) := by decide +kernel
theorem dL_law_429 : decode cL_law 429 = .ok (.iconst 2, 1) := by decide +kernel
theorem dL_law_430 : decode cL_law 430 = .ok (.iadd, 1) := by decide +kernel
theorem dL_law_431 : decode cL_law 431 = .ok (.iaload, 1) := by decide +kernel
theorem dL_law_432 : decode cL_law 432 = .ok (.invokevirtual 53, 3) := by decide +kernel
theorem dL_law_435 : decode cL_law 435 = .ok (.aload_n 2, 1) := by decide +kernel
theorem dL_law_436 : decode cL_law 436 = .ok (.aload_n 0, 1) := by decide +kernel
theorem dL_law_437 : decode cL_law 437 = .ok (.iload_n 3, 1) := by decide +kernel
theorem dL_law_438 : decode cL_law 438 = .ok (.iconst 1, 1) := by decide +kernel
theorem dL_law_439 : decode cL_law 439 = .ok (.iadd, 1) := by decide +kernel
theorem dL_law_440 : decode cL_law 440 = .ok (.iaload, 1) := by decide +kernel
theorem dL_law_441 : decode cL_law 441 = .ok (.aload_n 0, 1) := by decide +kernel
theorem dL_law_442 : decode cL_law 442 = .ok (.iload_n 3, 1) := by decide +kernel
theorem dL_law_443 : decode cL_law 443 = .ok (.iconst 2, 1) := by decide +kernel
theorem dL_law_444 : decode cL_law 444 = .ok (.iadd, 1) := by decide +kernel
theorem dL_law_445 : decode cL_law 445 = .ok (.iaload, 1) := by decide +kernel
theorem dL_law_446 : decode cL_law 446 = .ok (.invokevirtual 57, 3) := by decide +kernel
theorem dL_law_449 : decode cL_law 449 = .ok (.lcmp, 1) := by decide +kernel
theorem dL_law_450 : decode cL_law 450 = .ok (.ifCond .eq 671, 3) := by decide +kernel
theorem dL_law_453 : decode cL_law 453 = .ok (.iconst 0, 1) := by decide +kernel
theorem dL_law_454 : decode cL_law 454 = .ok (.ireturn, 1) := by decide +kernel
theorem dL_law_455 : decode cL_law 455 = .ok (.aload_n 1, 1) := by decide +kernel
theorem dL_law_456 : decode cL_law 456 = .ok (.aload_n 0, 1) := by decide +kernel
theorem dL_law_457 : decode cL_law 457 = .ok (.iload_n 3, 1) := by decide +kernel
theorem dL_law_458 : decode cL_law 458 = .ok (.iconst 1, 1) := by decide +kernel
theorem dL_law_459 : decode cL_law 459 = .ok (.iadd, 1) := by decide +kernel
theorem dL_law_460 : decode cL_law 460 = .ok (.iaload, 1) := by decide +kernel
theorem dL_law_461 : decode cL_law 461 = .ok (.invokevirtual 58, 3) := by decide +kernel
theorem dL_law_464 : decode cL_law 464 = .ok (.aload_n 2, 1) := by decide +kernel
theorem dL_law_465 : decode cL_law 465 = .ok (.aload_n 0, 1) := by decide +kernel
theorem dL_law_466 : decode cL_law 466 = .ok (.iload_n 3, 1) := by decide +kernel
theorem dL_law_467 : decode cL_law 467 = .ok (.iconst 1, 1) := by decide +kernel
theorem dL_law_468 : decode cL_law 468 = .ok (.iadd, 1) := by decide +kernel
theorem dL_law_469 : decode cL_law 469 = .ok (.iaload, 1) := by decide +kernel
theorem dL_law_470 : decode cL_law 470 = .ok (.invokevirtual 61, 3) := by decide +kernel
theorem dL_law_473 : decode cL_law 473 = .ok (.if_icmp .eq 648, 3) := by decide +kernel
theorem dL_law_476 : decode cL_law 476 = .ok (.iconst 0, 1) := by decide +kernel
theorem dL_law_477 : decode cL_law 477 = .ok (.ireturn, 1) := by decide +kernel
theorem dL_law_478 : decode cL_law 478 = .ok (.aload_n 1, 1) := by decide +kernel
theorem dL_law_479 : decode cL_law 479 = .ok (.aload_n 0, 1) := by decide +kernel
theorem dL_law_480 : decode cL_law 480 = .ok (.iload_n 3, 1) := by decide +kernel
theorem dL_law_481 : decode cL_law 481 = .ok (.iconst 1, 1) := by decide +kernel
theorem dL_law_482 : decode cL_law 482 = .ok (.iadd, 1) := by decide +kernel
theorem dL_law_483 : decode cL_law 483 = .ok (.iaload, 1) := by decide +kernel
theorem dL_law_484 : decode cL_law 484 = .ok (.invokevirtual 62, 3) := by decide +kernel
theorem dL_law_487 : decode cL_law 487 = .ok (.aload_n 2, 1) := by decide +kernel
theorem dL_law_488 : decode cL_law 488 = .ok (.aload_n 0, 1) := by decide +kernel
theorem dL_law_489 : decode cL_law 489 = .ok (.iload_n 3, 1) := by decide +kernel
theorem dL_law_490 : decode cL_law 490 = .ok (.iconst 1, 1) := by decide +kernel
theorem dL_law_491 : decode cL_law 491 = .ok (.iadd, 1) := by decide +kernel
theorem dL_law_492 : decode cL_law 492 = .ok (.iaload, 1) := by decide +kernel
theorem dL_law_493 : decode cL_law 493 = .ok (.invokevirtual 66, 3) := by decide +kernel
theorem dL_law_496 : decode cL_law 496 = .ok (.lcmp, 1) := by decide +kernel
theorem dL_law_497 : decode cL_law 497 = .ok (.ifCond .eq 624, 3) := by decide +kernel
theorem dL_law_500 : decode cL_law 500 = .ok (.iconst 0, 1) := by decide +kernel
theorem dL_law_501 : decode cL_law 501 = .ok (.ireturn, 1) := by decide +kernel
theorem dL_law_502 : decode cL_law 502 = .ok (.aload_n 1, 1) := by decide +kernel
theorem dL_law_503 : decode cL_law 503 = .ok (.aload_n 0, 1) := by decide +kernel
theorem dL_law_504 : decode cL_law 504 = .ok (.iload_n 3, 1) := by decide +kernel
theorem dL_law_505 : decode cL_law 505 = .ok (.iconst 1, 1) := by decide +kernel
theorem dL_law_506 : decode cL_law 506 = .ok (.iadd, 1) := by decide +kernel
theorem dL_law_507 : decode cL_law 507 = .ok (.iaload, 1) := by decide +kernel
theorem dL_law_508 : decode cL_law 508 = .ok (.aload_n 0, 1) := by decide +kernel
theorem dL_law_509 : decode cL_law 509 = .ok (.iload_n 3, 1) := by decide +kernel
theorem dL_law_510 : decode cL_law 510 = .ok (.iconst 2, 1) := by decide +kernel
theorem dL_law_511 : decode cL_law 511 = .ok (.iadd, 1) := by decide +kernel
theorem dL_law_512 : decode cL_law 512 = .ok (.iaload, 1) := by decide +kernel
theorem dL_law_513 : decode cL_law 513 = .ok (.invokevirtual 67, 3) := by decide +kernel
theorem dL_law_516 : decode cL_law 516 = .ok (.aload_n 2, 1) := by decide +kernel
theorem dL_law_517 : decode cL_law 517 = .ok (.aload_n 0, 1) := by decide +kernel
theorem dL_law_518 : decode cL_law 518 = .ok (.iload_n 3, 1) := by decide +kernel
theorem dL_law_519 : decode cL_law 519 = .ok (.iconst 1, 1) := by decide +kernel
theorem dL_law_520 : decode cL_law 520 = .ok (.iadd, 1) := by decide +kernel
theorem dL_law_521 : decode cL_law 521 = .ok (.iaload, 1) := by decide +kernel
theorem dL_law_522 : decode cL_law 522 = .ok (.aload_n 0, 1) := by decide +kernel
theorem dL_law_523 : decode cL_law 523 = .ok (.iload_n 3, 1) := by decide +kernel
theorem dL_law_524 : decode cL_law 524 = .ok (.iconst 2, 1) := by decide +kernel
theorem dL_law_525 : decode cL_law 525 = .ok (.iadd, 1) := by decide +kernel
theorem dL_law_526 : decode cL_law 526 = .ok (.iaload, 1) := by decide +kernel
theorem dL_law_527 : decode cL_law 527 = .ok (.invokevirtual 70, 3) := by decide +kernel
theorem dL_law_530 : decode cL_law 530 = .ok (.if_icmp .eq 591, 3) := by decide +kernel
theorem dL_law_533 : decode cL_law 533 = .ok (.iconst 0, 1) := by decide +kernel
theorem dL_law_534 : decode cL_law 534 = .ok (.ireturn, 1) := by decide +kernel
theorem dL_law_535 : decode cL_law 535 = .ok (.aload_n 1, 1) := by decide +kernel
theorem dL_law_536 : decode cL_law 536 = .ok (.aload_n 0, 1) := by decide +kernel
theorem dL_law_537 : decode cL_law 537 = .ok (.iload_n 3, 1) := by decide +kernel
theorem dL_law_538 : decode cL_law 538 = .ok (.iconst 1, 1) := by decide +kernel
theorem dL_law_539 : decode cL_law 539 = .ok (.iadd, 1) := by decide +kernel
theorem dL_law_540 : decode cL_law 540 = .ok (.iaload, 1) := by decide +kernel
theorem dL_law_541 : decode cL_law 541 = .ok (.invokevirtual 71, 3) := by decide +kernel
theorem dL_law_544 : decode cL_law 544 = .ok (.aload_n 2, 1) := by decide +kernel
theorem dL_law_545 : decode cL_law 545 = .ok (.aload_n 0, 1) := by decide +kernel
theorem dL_law_546 : decode cL_law 546 = .ok (.iload_n 3, 1) := by decide +kernel
theorem dL_law_547 : decode cL_law 547 = .ok (.iconst 1, 1) := by decide +kernel
theorem dL_law_548 : decode cL_law 548 = .ok (.iadd, 1) := by decide +kernel
theorem dL_law_549 : decode cL_law 549 = .ok (.iaload, 1) := by decide +kernel
theorem dL_law_550 : decode cL_law 550 = .ok (.invokevirtual 74, 3) := by decide +kernel
theorem dL_law_553 : decode cL_law 553 = .ok (.if_icmp .eq 568, 3) := by decide +kernel
theorem dL_law_556 : decode cL_law 556 = .ok (.iconst 0, 1) := by decide +kernel
theorem dL_law_557 : decode cL_law 557 = .ok (.ireturn, 1) := by decide +kernel
theorem dL_law_558 : decode cL_law 558 = .ok (.aload_n 1, 1) := by decide +kernel
theorem dL_law_559 : decode cL_law 559 = .ok (.aload_n 0, 1) := by decide +kernel
theorem dL_law_560 : decode cL_law 560 = .ok (.iload_n 3, 1) := by decide +kernel
theorem dL_law_561 : decode cL_law 561 = .ok (.iconst 1, 1) := by decide +kernel
theorem dL_law_562 : decode cL_law 562 = .ok (.iadd, 1) := by decide +kernel
theorem dL_law_563 : decode cL_law 563 = .ok (.iaload, 1) := by decide +kernel
theorem dL_law_564 : decode cL_law 564 = .ok (.invokevirtual 75, 3) := by decide +kernel
theorem dL_law_567 : decode cL_law 567 = .ok (.aload_n 2, 1) := by decide +kernel
theorem dL_law_568 : decode cL_law 568 = .ok (.aload_n 0, 1) := by decide +kernel
theorem dL_law_569 : decode cL_law 569 = .ok (.iload_n 3, 1) := by decide +kernel
theorem dL_law_570 : decode cL_law 570 = .ok (.iconst 1, 1) := by decide +kernel
theorem dL_law_571 : decode cL_law 571 = .ok (.iadd, 1) := by decide +kernel
theorem dL_law_572 : decode cL_law 572 = .ok (.iaload, 1) := by decide +kernel
theorem dL_law_573 : decode cL_law 573 = .ok (.invokevirtual 78, 3) := by decide +kernel
theorem dL_law_576 : decode cL_law 576 = .ok (.lcmp, 1) := by decide +kernel
theorem dL_law_577 : decode cL_law 577 = .ok (.ifCond .eq 544, 3) := by decide +kernel
theorem dL_law_580 : decode cL_law 580 = .ok (.iconst 0, 1) := by decide +kernel
theorem dL_law_581 : decode cL_law 581 = .ok (.ireturn, 1) := by decide +kernel
theorem dL_law_582 : decode cL_law 582 = .ok (.aload_n 1, 1) := by decide +kernel
theorem dL_law_583 : decode cL_law 583 = .ok (.aload_n 0, 1) := by decide +kernel
theorem dL_law_584 : decode cL_law 584 = .ok (.iload_n 3, 1) := by decide +kernel
theorem dL_law_585 : decode cL_law 585 = .ok (.iconst 1, 1) := by decide +kernel
theorem dL_law_586 : decode cL_law 586 = .ok (.iadd, 1) := by decide +kernel
theorem dL_law_587 : decode cL_law 587 = .ok (.iaload, 1) := by decide +kernel
theorem dL_law_588 : decode cL_law 588 = .ok (.invokevirtual 79, 3) := by decide +kernel
theorem dL_law_591 : decode cL_law 591 = .ok (.aload_n 2, 1) := by decide +kernel
theorem dL_law_592 : decode cL_law 592 = .ok (.aload_n 0, 1) := by decide +kernel
theorem dL_law_593 : decode cL_law 593 = .ok (.iload_n 3, 1) := by decide +kernel
theorem dL_law_594 : decode cL_law 594 = .ok (.iconst 1, 1) := by decide +kernel
theorem dL_law_595 : decode cL_law 595 = .ok (.iadd, 1) := by decide +kernel
theorem dL_law_596 : decode cL_law 596 = .ok (.iaload, 1) := by decide +kernel
theorem dL_law_597 : decode cL_law 597 = .ok (.invokevirtual 82, 3) := by decide +kernel
theorem dL_law_600 : decode cL_law 600 = .ok (.if_icmp .eq 521, 3) := by decide +kernel
theorem dL_law_603 : decode cL_law 603 = .ok (.iconst 0, 1) := by decide +kernel
theorem dL_law_604 : decode cL_law 604 = .ok (.ireturn, 1) := by decide +kernel
theorem dL_law_605 : decode cL_law 605 = .ok (.aload_n 1, 1) := by decide +kernel
theorem dL_law_606 : decode cL_law 606 = .ok (.invokevirtual 83, 3) := by decide +kernel
theorem dL_law_609 : decode cL_law 609 = .ok (.aload_n 2, 1) := by decide +kernel
theorem dL_law_610 : decode cL_law 610 = .ok (.invokevirtual 86, 3) := by decide +kernel
theorem dL_law_613 : decode cL_law 613 = .ok (.if_icmp .eq 508, 3) := by decide +kernel
theorem dL_law_616 : decode cL_law 616 = .ok (.iconst 0, 1) := by decide +kernel
theorem dL_law_617 : decode cL_law 617 = .ok (.ireturn, 1) := by decide +kernel
theorem dL_law_618 : decode cL_law 618 = .ok (.aload_n 1, 1) := by decide +kernel
theorem dL_law_619 : decode cL_law 619 = .ok (.aload_n 0, 1) := by decide +kernel
theorem dL_law_620 : decode cL_law 620 = .ok (.iload_n 3, 1) := by decide +kernel
theorem dL_law_621 : decode cL_law 621 = .ok (.iconst 1, 1) := by decide +kernel
theorem dL_law_622 : decode cL_law 622 = .ok (.iadd, 1) := by decide +kernel
theorem dL_law_623 : decode cL_law 623 = .ok (.iaload, 1) := by decide +kernel
theorem dL_law_624 : decode cL_law 624 = .ok (.invokevirtual 87, 3) := by decide +kernel
theorem dL_law_627 : decode cL_law 627 = .ok (.aload_n 2, 1) := by decide +kernel
theorem dL_law_628 : decode cL_law 628 = .ok (.aload_n 0, 1) := by decide +kernel
theorem dL_law_629 : decode cL_law 629 = .ok (.iload_n 3, 1) := by decide +kernel
theorem dL_law_630 : decode cL_law 630 = .ok (.iconst 1, 1) := by decide +kernel
theorem dL_law_631 : decode cL_law 631 = .ok (.iadd, 1) := by decide +kernel
theorem dL_law_632 : decode cL_law 632 = .ok (.iaload, 1) := by decide +kernel
theorem dL_law_633 : decode cL_law 633 = .ok (.invokevirtual 90, 3) := by decide +kernel
theorem dL_law_636 : decode cL_law 636 = .ok (.lcmp, 1) := by decide +kernel
theorem dL_law_637 : decode cL_law 637 = .ok (.ifCond .eq 484, 3) := by decide +kernel
theorem dL_law_640 : decode cL_law 640 = .ok (.iconst 0, 1) := by decide +kernel
theorem dL_law_641 : decode cL_law 641 = .ok (.ireturn, 1) := by decide +kernel
theorem dL_law_642 : decode cL_law 642 = .ok (.aload_n 1, 1) := by decide +kernel
theorem dL_law_643 : decode cL_law 643 = .ok (.aload_n 0, 1) := by decide +kernel
theorem dL_law_644 : decode cL_law 644 = .ok (.iload_n 3, 1) := by decide +kernel
theorem dL_law_645 : decode cL_law 645 = .ok (.iconst 1, 1) := by decide +kernel
theorem dL_law_646 : decode cL_law 646 = .ok (.iadd, 1) := by decide +kernel
theorem dL_law_647 : decode cL_law 647 = .ok (.iaload, 1) := by decide +kernel
theorem dL_law_648 : decode cL_law 648 = .ok (.aload_n 0, 1) := by decide +kernel
theorem dL_law_649 : decode cL_law 649 = .ok (.iload_n 3, 1) := by decide +kernel
theorem dL_law_650 : decode cL_law 650 = .ok (.iconst 2, 1) := by decide +kernel
theorem dL_law_651 : decode cL_law 651 = .ok (.iadd, 1) := by decide +kernel
theorem dL_law_652 : decode cL_law 652 = .ok (.iaload, 1) := by decide +kernel
theorem dL_law_653 : decode cL_law 653 = .ok (.ifCond .eq 7, 3) := by decide +kernel
theorem dL_law_656 : decode cL_law 656 = .ok (.iconst 1, 1) := by decide +kernel
theorem dL_law_657 : decode cL_law 657 = .ok (.goto 4, 3) := by decide +kernel
theorem dL_law_660 : decode cL_law 660 = .ok (.iconst 0, 1) := by decide +kernel
theorem dL_law_661 : decode cL_law 661 = .ok (.invokevirtual 91, 3) := by decide +kernel
theorem dL_law_664 : decode cL_law 664 = .ok (.aload_n 2, 1) := by decide +kernel
theorem dL_law_665 : decode cL_law 665 = .ok (.aload_n 0, 1) := by decide +kernel
theorem dL_law_666 : decode cL_law 666 = .ok (.iload_n 3, 1) := by decide +kernel
theorem dL_law_667 : decode cL_law 667 = .ok (.iconst 1, 1) := by decide +kernel
theorem dL_law_668 : decode cL_law 668 = .ok (.iadd, 1) := by decide +kernel
theorem dL_law_669 : decode cL_law 669 = .ok (.iaload, 1) := by decide +kernel
theorem dL_law_670 : decode cL_law 670 = .ok (.aload_n 0, 1) := by decide +kernel
theorem dL_law_671 : decode cL_law 671 = .ok (.iload_n 3, 1) := by decide +kernel
theorem dL_law_672 : decode cL_law 672 = .ok (.iconst 2, 1) := by decide +kernel
theorem dL_law_673 : decode cL_law 673 = .ok (.iadd, 1) := by decide +kernel
theorem dL_law_674 : decode cL_law 674 = .ok (.iaload, 1) := by decide +kernel
theorem dL_law_675 : decode cL_law 675 = .ok (.ifCond .eq 7, 3) := by decide +kernel
theorem dL_law_678 : decode cL_law 678 = .ok (.iconst 1, 1) := by decide +kernel
theorem dL_law_679 : decode cL_law 679 = .ok (.goto 4, 3) := by decide +kernel
theorem dL_law_682 : decode cL_law 682 = .ok (.iconst 0, 1) := by decide +kernel
theorem dL_law_683 : decode cL_law 683 = .ok (.invokevirtual 95, 3) := by decide +kernel
theorem dL_law_686 : decode cL_law 686 = .ok (.if_icmp .eq 435, 3) := by decide +kernel
theorem dL_law_689 : decode cL_law 689 = .ok (.iconst 0, 1) := by decide +kernel
theorem dL_law_690 : decode cL_law 690 = .ok (.ireturn, 1) := by decide +kernel
theorem dL_law_691 : decode cL_law 691 = .ok (.aload_n 1, 1) := by decide +kernel
theorem dL_law_692 : decode cL_law 692 = .ok (.aload_n 0, 1) := by decide +kernel
theorem dL_law_693 : decode cL_law 693 = .ok (.iload_n 3, 1) := by decide +kernel
theorem dL_law_694 : decode cL_law 694 = .ok (.iconst 1, 1) := by decide +kernel
theorem dL_law_695 : decode cL_law 695 = .ok (.iadd, 1) := by decide +kernel
theorem dL_law_696 : decode cL_law 696 = .ok (.iaload, 1) := by decide +kernel
theorem dL_law_697 : decode cL_law 697 = .ok (.invokevirtual 96, 3) := by decide +kernel
theorem dL_law_700 : decode cL_law 700 = .ok (.aload_n 2, 1) := by decide +kernel
theorem dL_law_701 : decode cL_law 701 = .ok (.aload_n 0, 1) := by decide +kernel
theorem dL_law_702 : decode cL_law 702 = .ok (.iload_n 3, 1) := by decide +kernel
theorem dL_law_703 : decode cL_law 703 = .ok (.iconst 1, 1) := by decide +kernel
theorem dL_law_704 : decode cL_law 704 = .ok (.iadd, 1) := by decide +kernel
theorem dL_law_705 : decode cL_law 705 = .ok (.iaload, 1) := by decide +kernel
theorem dL_law_706 : decode cL_law 706 = .ok (.invokevirtual 99, 3) := by decide +kernel
theorem dL_law_709 : decode cL_law 709 = .ok (.lcmp, 1) := by decide +kernel
theorem dL_law_710 : decode cL_law 710 = .ok (.ifCond .eq 411, 3) := by decide +kernel
theorem dL_law_713 : decode cL_law 713 = .ok (.iconst 0, 1) := by decide +kernel
theorem dL_law_714 : decode cL_law 714 = .ok (.ireturn, 1) := by decide +kernel
theorem dL_law_715 : decode cL_law 715 = .ok (.aload_n 1, 1) := by decide +kernel
theorem dL_law_716 : decode cL_law 716 = .ok (.invokevirtual 100, 3) := by decide +kernel
theorem dL_law_719 : decode cL_law 719 = .ok (.aload_n 2, 1) := by decide +kernel
theorem dL_law_720 : decode cL_law 720 = .ok (.invokevirtual 103, 3) := by decide +kernel
theorem dL_law_723 : decode cL_law 723 = .ok (.lcmp, 1) := by decide +kernel
theorem dL_law_724 : decode cL_law 724 = .ok (.ifCond .eq 397, 3) := by decide +kernel
theorem dL_law_727 : decode cL_law 727 = .ok (.iconst 0, 1) := by decide +kernel
theorem dL_law_728 : decode cL_law 728 = .ok (.ireturn, 1) := by decide +kernel
theorem dL_law_729 : decode cL_law 729 = .ok (.aload_n 1, 1) := by decide +kernel
theorem dL_law_730 : decode cL_law 730 = .ok (.aload_n 0, 1) := by decide +kernel
theorem dL_law_731 : decode cL_law 731 = .ok (.iload_n 3, 1) := by decide +kernel
theorem dL_law_732 : decode cL_law 732 = .ok (.iconst 1, 1) := by decide +kernel
theorem dL_law_733 : decode cL_law 733 = .ok (.iadd, 1) := by decide +kernel
theorem dL_law_734 : decode cL_law 734 = .ok (.iaload, 1) := by decide +kernel
theorem dL_law_735 : decode cL_law 735 = .ok (.aload_n 0, 1) := by decide +kernel
theorem dL_law_736 : decode cL_law 736 = .ok (.iload_n 3, 1) := by decide +kernel
theorem dL_law_737 : decode cL_law 737 = .ok (.iconst 2, 1) := by decide +kernel
theorem dL_law_738 : decode cL_law 738 = .ok (.iadd, 1) := by decide +kernel
theorem dL_law_739 : decode cL_law 739 = .ok (.iaload, 1) := by decide +kernel
theorem dL_law_740 : decode cL_law 740 = .ok (.ifCond .eq 7, 3) := by decide +kernel
theorem dL_law_743 : decode cL_law 743 = .ok (.iconst 1, 1) := by decide +kernel
theorem dL_law_744 : decode cL_law 744 = .ok (.goto 4, 3) := by decide +kernel
theorem dL_law_747 : decode cL_law 747 = .ok (.iconst 0, 1) := by decide +kernel
theorem dL_law_748 : decode cL_law 748 = .ok (.invokevirtual 104, 3) := by decide +kernel
theorem dL_law_751 : decode cL_law 751 = .ok (.aload_n 2, 1) := by decide +kernel
theorem dL_law_752 : decode cL_law 752 = .ok (.aload_n 0, 1) := by decide +kernel
theorem dL_law_753 : decode cL_law 753 = .ok (.iload_n 3, 1) := by decide +kernel
theorem dL_law_754 : decode cL_law 754 = .ok (.iconst 1, 1) := by decide +kernel
theorem dL_law_755 : decode cL_law 755 = .ok (.iadd, 1) := by decide +kernel
theorem dL_law_756 : decode cL_law 756 = .ok (.iaload, 1) := by decide +kernel
theorem dL_law_757 : decode cL_law 757 = .ok (.aload_n 0, 1) := by decide +kernel
theorem dL_law_758 : decode cL_law 758 = .ok (.iload_n 3, 1) := by decide +kernel
theorem dL_law_759 : decode cL_law 759 = .ok (.iconst 2, 1) := by decide +kernel
theorem dL_law_760 : decode cL_law 760 = .ok (.iadd, 1) := by decide +kernel
theorem dL_law_761 : decode cL_law 761 = .ok (.iaload, 1) := by decide +kernel
theorem dL_law_762 : decode cL_law 762 = .ok (.ifCond .eq 7, 3) := by decide +kernel
theorem dL_law_765 : decode cL_law 765 = .ok (.iconst 1, 1) := by decide +kernel
theorem dL_law_766 : decode cL_law 766 = .ok (.goto 4, 3) := by decide +kernel
theorem dL_law_769 : decode cL_law 769 = .ok (.iconst 0, 1) := by decide +kernel
theorem dL_law_770 : decode cL_law 770 = .ok (.invokevirtual 108, 3) := by decide +kernel
theorem dL_law_773 : decode cL_law 773 = .ok (.lcmp, 1) := by decide +kernel
theorem dL_law_774 : decode cL_law 774 = .ok (.ifCond .eq 347, 3) := by decide +kernel
theorem dL_law_777 : decode cL_law 777 = .ok (.iconst 0, 1) := by decide +kernel
theorem dL_law_778 : decode cL_law 778 = .ok (.ireturn, 1) := by decide +kernel
theorem dL_law_779 : decode cL_law 779 = .ok (.aload_n 1, 1) := by decide +kernel
theorem dL_law_780 : decode cL_law 780 = .ok (.invokevirtual 109, 3) := by decide +kernel
theorem dL_law_783 : decode cL_law 783 = .ok (.aload_n 2, 1) := by decide +kernel
theorem dL_law_784 : decode cL_law 784 = .ok (.invokevirtual 112, 3) := by decide +kernel
theorem dL_law_787 : decode cL_law 787 = .ok (.if_icmp .eq 334, 3) := by decide +kernel
theorem dL_law_790 : decode cL_law 790 = .ok (.iconst 0, 1) := by decide +kernel
theorem dL_law_791 : decode cL_law 791 = .ok (.ireturn, 1) := by decide +kernel
theorem dL_law_792 : decode cL_law 792 = .ok (.aload_n 1, 1) := by decide +kernel
theorem dL_law_793 : decode cL_law 793 = .ok (.aload_n 0, 1) := by decide +kernel
theorem dL_law_794 : decode cL_law 794 = .ok (.iload_n 3, 1) := by decide +kernel
theorem dL_law_795 : decode cL_law 795 = .ok (.iconst 1, 1) := by decide +kernel
theorem dL_law_796 : decode cL_law 796 = .ok (.iadd, 1) := by decide +kernel
theorem dL_law_797 : decode cL_law 797 = .ok (.iaload, 1) := by decide +kernel
theorem dL_law_798 : decode cL_law 798 = .ok (.aload_n 0, 1) := by decide +kernel
theorem dL_law_799 : decode cL_law 799 = .ok (.iload_n 3, 1) := by decide +kernel
theorem dL_law_800 : decode cL_law 800 = .ok (.iconst 2, 1) := by decide +kernel
theorem dL_law_801 : decode cL_law 801 = .ok (.iadd, 1) := by decide +kernel
theorem dL_law_802 : decode cL_law 802 = .ok (.iaload, 1) := by decide +kernel
theorem dL_law_803 : decode cL_law 803 = .ok (.ifCond .eq 7, 3) := by decide +kernel
theorem dL_law_806 : decode cL_law 806 = .ok (.iconst 1, 1) := by decide +kernel
theorem dL_law_807 : decode cL_law 807 = .ok (.goto 4, 3) := by decide +kernel
theorem dL_law_810 : decode cL_law 810 = .ok (.iconst 0, 1) := by decide +kernel
theorem dL_law_811 : decode cL_law 811 = .ok (.invokevirtual 113, 3) := by decide +kernel
theorem dL_law_814 : decode cL_law 814 = .ok (.aload_n 2, 1) := by decide +kernel
theorem dL_law_815 : decode cL_law 815 = .ok (.aload_n 0, 1) := by decide +kernel
theorem dL_law_816 : decode cL_law 816 = .ok (.iload_n 3, 1) := by decide +kernel
theorem dL_law_817 : decode cL_law 817 = .ok (.iconst 1, 1) := by decide +kernel
theorem dL_law_818 : decode cL_law 818 = .ok (.iadd, 1) := by decide +kernel
theorem dL_law_819 : decode cL_law 819 = .ok (.iaload, 1) := by decide +kernel
theorem dL_law_820 : decode cL_law 820 = .ok (.aload_n 0, 1) := by decide +kernel
theorem dL_law_821 : decode cL_law 821 = .ok (.iload_n 3, 1) := by decide +kernel
theorem dL_law_822 : decode cL_law 822 = .ok (.iconst 2, 1) := by decide +kernel
theorem dL_law_823 : decode cL_law 823 = .ok (.iadd, 1) := by decide +kernel
theorem dL_law_824 : decode cL_law 824 = .ok (.iaload, 1) := by decide +kernel
theorem dL_law_825 : decode cL_law 825 = .ok (.ifCond .eq 7, 3) := by decide +kernel
theorem dL_law_828 : decode cL_law 828 = .ok (.iconst 1, 1) := by decide +kernel
theorem dL_law_829 : decode cL_law 829 = .ok (.goto 4, 3) := by decide +kernel
theorem dL_law_832 : decode cL_law 832 = .ok (.iconst 0, 1) := by decide +kernel
theorem dL_law_833 : decode cL_law 833 = .ok (.invokevirtual 116, 3) := by decide +kernel
theorem dL_law_836 : decode cL_law 836 = .ok (.lcmp, 1) := by decide +kernel
theorem dL_law_837 : decode cL_law 837 = .ok (.ifCond .eq 284, 3) := by decide +kernel
theorem dL_law_840 : decode cL_law 840 = .ok (.iconst 0, 1) := by decide +kernel
theorem dL_law_841 : decode cL_law 841 = .ok (.ireturn, 1) := by decide +kernel
theorem dL_law_842 : decode cL_law 842 = .ok (.aload_n 1, 1) := by decide +kernel
theorem dL_law_843 : decode cL_law 843 = .ok (.aload_n 0, 1) := by decide +kernel
theorem dL_law_844 : decode cL_law 844 = .ok (.iload_n 3, 1) := by decide +kernel
theorem dL_law_845 : decode cL_law 845 = .ok (.iconst 1, 1) := by decide +kernel
theorem dL_law_846 : decode cL_law 846 = .ok (.iadd, 1) := by decide +kernel
theorem dL_law_847 : decode cL_law 847 = .ok (.iaload, 1) := by decide +kernel
theorem dL_law_848 : decode cL_law 848 = .ok (.invokevirtual 117, 3) := by decide +kernel
theorem dL_law_851 : decode cL_law 851 = .ok (.aload_n 2, 1) := by decide +kernel
theorem dL_law_852 : decode cL_law 852 = .ok (.aload_n 0, 1) := by decide +kernel
theorem dL_law_853 : decode cL_law 853 = .ok (.iload_n 3, 1) := by decide +kernel
theorem dL_law_854 : decode cL_law 854 = .ok (.iconst 1, 1) := by decide +kernel
theorem dL_law_855 : decode cL_law 855 = .ok (.iadd, 1) := by decide +kernel
theorem dL_law_856 : decode cL_law 856 = .ok (.iaload, 1) := by decide +kernel
theorem dL_law_857 : decode cL_law 857 = .ok (.invokevirtual 120, 3) := by decide +kernel
theorem dL_law_860 : decode cL_law 860 = .ok (.lcmp, 1) := by decide +kernel
theorem dL_law_861 : decode cL_law 861 = .ok (.ifCond .eq 260, 3) := by decide +kernel
theorem dL_law_864 : decode cL_law 864 = .ok (.iconst 0, 1) := by decide +kernel
theorem dL_law_865 : decode cL_law 865 = .ok (.ireturn, 1) := by decide +kernel
theorem dL_law_866 : decode cL_law 866 = .ok (.aload_n 1, 1) := by decide +kernel
theorem dL_law_867 : decode cL_law 867 = .ok (.aload_n 0, 1) := by decide +kernel
theorem dL_law_868 : decode cL_law 868 = .ok (.iload_n 3, 1) := by decide +kernel
theorem dL_law_869 : decode cL_law 869 = .ok (.iconst 1, 1) := by decide +kernel
theorem dL_law_870 : decode cL_law 870 = .ok (.iadd, 1) := by decide +kernel
theorem dL_law_871 : decode cL_law 871 = .ok (.iaload, 1) := by decide +kernel
theorem dL_law_872 : decode cL_law 872 = .ok (.aload_n 0, 1) := by decide +kernel
theorem dL_law_873 : decode cL_law 873 = .ok (.iload_n 3, 1) := by decide +kernel
theorem dL_law_874 : decode cL_law 874 = .ok (.iconst 2, 1) := by decide +kernel
theorem dL_law_875 : decode cL_law 875 = .ok (.iadd, 1) := by decide +kernel
theorem dL_law_876 : decode cL_law 876 = .ok (.iaload, 1) := by decide +kernel
theorem dL_law_877 : decode cL_law 877 = .ok (.aload_n 0, 1) := by decide +kernel
theorem dL_law_878 : decode cL_law 878 = .ok (.iload_n 3, 1) := by decide +kernel
theorem dL_law_879 : decode cL_law 879 = .ok (.iconst 3, 1) := by decide +kernel
theorem dL_law_880 : decode cL_law 880 = .ok (.iadd, 1) := by decide +kernel
theorem dL_law_881 : decode cL_law 881 = .ok (.iaload, 1) := by decide +kernel
theorem dL_law_882 : decode cL_law 882 = .ok (.ifCond .eq 7, 3) := by decide +kernel
theorem dL_law_885 : decode cL_law 885 = .ok (.iconst 1, 1) := by decide +kernel
theorem dL_law_886 : decode cL_law 886 = .ok (.goto 4, 3) := by decide +kernel
theorem dL_law_889 : decode cL_law 889 = .ok (.iconst 0, 1) := by decide +kernel
theorem dL_law_890 : decode cL_law 890 = .ok (.invokevirtual 121, 3) := by decide +kernel
theorem dL_law_893 : decode cL_law 893 = .ok (.aload_n 2, 1) := by decide +kernel
theorem dL_law_894 : decode cL_law 894 = .ok (.aload_n 0, 1) := by decide +kernel
theorem dL_law_895 : decode cL_law 895 = .ok (.iload_n 3, 1) := by decide +kernel
theorem dL_law_896 : decode cL_law 896 = .ok (.iconst 1, 1) := by decide +kernel
theorem dL_law_897 : decode cL_law 897 = .ok (.iadd, 1) := by decide +kernel
theorem dL_law_898 : decode cL_law 898 = .ok (.iaload, 1) := by decide +kernel
theorem dL_law_899 : decode cL_law 899 = .ok (.aload_n 0, 1) := by decide +kernel
theorem dL_law_900 : decode cL_law 900 = .ok (.iload_n 3, 1) := by decide +kernel
theorem dL_law_901 : decode cL_law 901 = .ok (.iconst 2, 1) := by decide +kernel
theorem dL_law_902 : decode cL_law 902 = .ok (.iadd, 1) := by decide +kernel
theorem dL_law_903 : decode cL_law 903 = .ok (.iaload, 1) := by decide +kernel
theorem dL_law_904 : decode cL_law 904 = .ok (.aload_n 0, 1) := by decide +kernel
theorem dL_law_905 : decode cL_law 905 = .ok (.iload_n 3, 1) := by decide +kernel
theorem dL_law_906 : decode cL_law 906 = .ok (.iconst 3, 1) := by decide +kernel
theorem dL_law_907 : decode cL_law 907 = .ok (.iadd, 1) := by decide +kernel
theorem dL_law_908 : decode cL_law 908 = .ok (.iaload, 1) := by decide +kernel
theorem dL_law_909 : decode cL_law 909 = .ok (.ifCond .eq 7, 3) := by decide +kernel
theorem dL_law_912 : decode cL_law 912 = .ok (.iconst 1, 1) := by decide +kernel
theorem dL_law_913 : decode cL_law 913 = .ok (.goto 4, 3) := by decide +kernel
theorem dL_law_916 : decode cL_law 916 = .ok (.iconst 0, 1) := by decide +kernel
theorem dL_law_917 : decode cL_law 917 = .ok (.invokevirtual 125, 3) := by decide +kernel
theorem dL_law_920 : decode cL_law 920 = .ok (.lcmp, 1) := by decide +kernel
theorem dL_law_921 : decode cL_law 921 = .ok (.ifCond .eq 200, 3) := by decide +kernel
theorem dL_law_924 : decode cL_law 924 = .ok (.iconst 0, 1) := by decide +kernel
theorem dL_law_925 : decode cL_law 925 = .ok (.ireturn, 1) := by decide +kernel
theorem dL_law_926 : decode cL_law 926 = .ok (.aload_n 1, 1) := by decide +kernel
theorem dL_law_927 : decode cL_law 927 = .ok (.aload_n 0, 1) := by decide +kernel
theorem dL_law_928 : decode cL_law 928 = .ok (.iload_n 3, 1) := by decide +kernel
theorem dL_law_929 : decode cL_law 929 = .ok (.iconst 1, 1) := by decide +kernel
theorem dL_law_930 : decode cL_law 930 = .ok (.iadd, 1) := by decide +kernel
theorem dL_law_931 : decode cL_law 931 = .ok (.iaload, 1) := by decide +kernel
theorem dL_law_932 : decode cL_law 932 = .ok (.ifCond .eq 7, 3) := by decide +kernel
theorem dL_law_935 : decode cL_law 935 = .ok (.iconst 1, 1) := by decide +kernel
theorem dL_law_936 : decode cL_law 936 = .ok (.goto 4, 3) := by decide +kernel
theorem dL_law_939 : decode cL_law 939 = .ok (.iconst 0, 1) := by decide +kernel
theorem dL_law_940 : decode cL_law 940 = .ok (.invokevirtual 126, 3) := by decide +kernel
theorem dL_law_943 : decode cL_law 943 = .ok (.aload_n 2, 1) := by decide +kernel
theorem dL_law_944 : decode cL_law 944 = .ok (.aload_n 0, 1) := by decide +kernel
theorem dL_law_945 : decode cL_law 945 = .ok (.iload_n 3, 1) := by decide +kernel
theorem dL_law_946 : decode cL_law 946 = .ok (.iconst 1, 1) := by decide +kernel
theorem dL_law_947 : decode cL_law 947 = .ok (.iadd, 1) := by decide +kernel
theorem dL_law_948 : decode cL_law 948 = .ok (.iaload, 1) := by decide +kernel
theorem dL_law_949 : decode cL_law 949 = .ok (.ifCond .eq 7, 3) := by decide +kernel
theorem dL_law_952 : decode cL_law 952 = .ok (.iconst 1, 1) := by decide +kernel
theorem dL_law_953 : decode cL_law 953 = .ok (.goto 4, 3) := by decide +kernel
theorem dL_law_956 : decode cL_law 956 = .ok (.iconst 0, 1) := by decide +kernel
theorem dL_law_957 : decode cL_law 957 = .ok (.invokevirtual 130, 3) := by decide +kernel
theorem dL_law_960 : decode cL_law 960 = .ok (.lcmp, 1) := by decide +kernel
theorem dL_law_961 : decode cL_law 961 = .ok (.ifCond .eq 160, 3) := by decide +kernel
theorem dL_law_964 : decode cL_law 964 = .ok (.iconst 0, 1) := by decide +kernel
theorem dL_law_965 : decode cL_law 965 = .ok (.ireturn, 1) := by decide +kernel
theorem dL_law_966 : decode cL_law 966 = .ok (.aload_n 1, 1) := by decide +kernel
theorem dL_law_967 : decode cL_law 967 = .ok (.aload_n 0, 1) := by decide +kernel
theorem dL_law_968 : decode cL_law 968 = .ok (.iload_n 3, 1) := by decide +kernel
theorem dL_law_969 : decode cL_law 969 = .ok (.iconst 1, 1) := by decide +kernel
theorem dL_law_970 : decode cL_law 970 = .ok (.iadd, 1) := by decide +kernel
theorem dL_law_971 : decode cL_law 971 = .ok (.iaload, 1) := by decide +kernel
theorem dL_law_972 : decode cL_law 972 = .ok (.aload_n 0, 1) := by decide +kernel
theorem dL_law_973 : decode cL_law 973 = .ok (.iload_n 3, 1) := by decide +kernel
theorem dL_law_974 : decode cL_law 974 = .ok (.iconst 2, 1) := by decide +kernel
theorem dL_law_975 : decode cL_law 975 = .ok (.iadd, 1) := by decide +kernel
theorem dL_law_976 : decode cL_law 976 = .ok (.iaload, 1) := by decide +kernel
theorem dL_law_977 : decode cL_law 977 = .ok (.aload_n 0, 1) := by decide +kernel
theorem dL_law_978 : decode cL_law 978 = .ok (.iload_n 3, 1) := by decide +kernel
theorem dL_law_979 : decode cL_law 979 = .ok (.iconst 3, 1) := by decide +kernel
theorem dL_law_980 : decode cL_law 980 = .ok (.iadd, 1) := by decide +kernel
theorem dL_law_981 : decode cL_law 981 = .ok (.iaload, 1) := by decide +kernel
theorem dL_law_982 : decode cL_law 982 = .ok (.aload_n 0, 1) := by decide +kernel
theorem dL_law_983 : decode cL_law 983 = .ok (.iload_n 3, 1) := by decide +kernel
theorem dL_law_984 : decode cL_law 984 = .ok (.iconst 4, 1) := by decide +kernel
theorem dL_law_985 : decode cL_law 985 = .ok (.iadd, 1) := by decide +kernel
theorem dL_law_986 : decode cL_law 986 = .ok (.iaload, 1) := by decide +kernel
theorem dL_law_987 : decode cL_law 987 = .ok (.ifCond .eq 7, 3) := by decide +kernel
theorem dL_law_990 : decode cL_law 990 = .ok (.iconst 1, 1) := by decide +kernel
theorem dL_law_991 : decode cL_law 991 = .ok (.goto 4, 3) := by decide +kernel
theorem dL_law_994 : decode cL_law 994 = .ok (.iconst 0, 1) := by decide +kernel
theorem dL_law_995 : decode cL_law 995 = .ok (.invokevirtual 131, 3) := by decide +kernel
theorem dL_law_998 : decode cL_law 998 = .ok (.aload_n 2, 1) := by decide +kernel
theorem dL_law_999 : decode cL_law 999 = .ok (.aload_n 0, 1) := by decide +kernel
theorem dL_law_1000 : decode cL_law 1000 = .ok (.iload_n 3, 1) := by decide +kernel
theorem dL_law_1001 : decode cL_law 1001 = .ok (.iconst 1, 1) := by decide +kernel
theorem dL_law_1002 : decode cL_law 1002 = .ok (.iadd, 1) := by decide +kernel
theorem dL_law_1003 : decode cL_law 1003 = .ok (.iaload, 1) := by decide +kernel
theorem dL_law_1004 : decode cL_law 1004 = .ok (.aload_n 0, 1) := by decide +kernel
theorem dL_law_1005 : decode cL_law 1005 = .ok (.iload_n 3, 1) := by decide +kernel
theorem dL_law_1006 : decode cL_law 1006 = .ok (.iconst 2, 1) := by decide +kernel
theorem dL_law_1007 : decode cL_law 1007 = .ok (.iadd, 1) := by decide +kernel
theorem dL_law_1008 : decode cL_law 1008 = .ok (.iaload, 1) := by decide +kernel
theorem dL_law_1009 : decode cL_law 1009 = .ok (.aload_n 0, 1) := by decide +kernel
theorem dL_law_1010 : decode cL_law 1010 = .ok (.iload_n 3, 1) := by decide +kernel
theorem dL_law_1011 : decode cL_law 1011 = .ok (.iconst 3, 1) := by decide +kernel
theorem dL_law_1012 : decode cL_law 1012 = .ok (.iadd, 1) := by decide +kernel
theorem dL_law_1013 : decode cL_law 1013 = .ok (.iaload, 1) := by decide +kernel
theorem dL_law_1014 : decode cL_law 1014 = .ok (.aload_n 0, 1) := by decide +kernel
theorem dL_law_1015 : decode cL_law 1015 = .ok (.iload_n 3, 1) := by decide +kernel
theorem dL_law_1016 : decode cL_law 1016 = .ok (.iconst 4, 1) := by decide +kernel
theorem dL_law_1017 : decode cL_law 1017 = .ok (.iadd, 1) := by decide +kernel
theorem dL_law_1018 : decode cL_law 1018 = .ok (.iaload, 1) := by decide +kernel
theorem dL_law_1019 : decode cL_law 1019 = .ok (.ifCond .eq 7, 3) := by decide +kernel
theorem dL_law_1022 : decode cL_law 1022 = .ok (.iconst 1, 1) := by decide +kernel
theorem dL_law_1023 : decode cL_law 1023 = .ok (.goto 4, 3) := by decide +kernel
theorem dL_law_1026 : decode cL_law 1026 = .ok (.iconst 0, 1) := by decide +kernel
theorem dL_law_1027 : decode cL_law 1027 = .ok (.invokevirtual 135, 3) := by decide +kernel
theorem dL_law_1030 : decode cL_law 1030 = .ok (.if_icmp .eq 91, 3) := by decide +kernel
theorem dL_law_1033 : decode cL_law 1033 = .ok (.iconst 0, 1) := by decide +kernel
theorem dL_law_1034 : decode cL_law 1034 = .ok (.ireturn, 1) := by decide +kernel
theorem dL_law_1035 : decode cL_law 1035 = .ok (.aload_n 1, 1) := by decide +kernel
theorem dL_law_1036 : decode cL_law 1036 = .ok (.aload_n 0, 1) := by decide +kernel
theorem dL_law_1037 : decode cL_law 1037 = .ok (.iload_n 3, 1) := by decide +kernel
theorem dL_law_1038 : decode cL_law 1038 = .ok (.iconst 1, 1) := by decide +kernel
theorem dL_law_1039 : decode cL_law 1039 = .ok (.iadd, 1) := by decide +kernel
theorem dL_law_1040 : decode cL_law 1040 = .ok (.iaload, 1) := by decide +kernel
theorem dL_law_1041 : decode cL_law 1041 = .ok (.invokevirtual 136, 3) := by decide +kernel
theorem dL_law_1044 : decode cL_law 1044 = .ok (.aload_n 2, 1) := by decide +kernel
theorem dL_law_1045 : decode cL_law 1045 = .ok (.aload_n 0, 1) := by decide +kernel
theorem dL_law_1046 : decode cL_law 1046 = .ok (.iload_n 3, 1) := by decide +kernel
theorem dL_law_1047 : decode cL_law 1047 = .ok (.iconst 1, 1) := by decide +kernel
theorem dL_law_1048 : decode cL_law 1048 = .ok (.iadd, 1) := by decide +kernel
theorem dL_law_1049 : decode cL_law 1049 = .ok (.iaload, 1) := by decide +kernel
theorem dL_law_1050 : decode cL_law 1050 = .ok (.invokevirtual 139, 3) := by decide +kernel
theorem dL_law_1053 : decode cL_law 1053 = .ok (.if_icmp .eq 68, 3) := by decide +kernel
theorem dL_law_1056 : decode cL_law 1056 = .ok (.iconst 0, 1) := by decide +kernel
theorem dL_law_1057 : decode cL_law 1057 = .ok (.ireturn, 1) := by decide +kernel
theorem dL_law_1058 : decode cL_law 1058 = .ok (.aload_n 1, 1) := by decide +kernel
theorem dL_law_1059 : decode cL_law 1059 = .ok (.invokevirtual 140, 3) := by decide +kernel
theorem dL_law_1062 : decode cL_law 1062 = .ok (.aload_n 2, 1) := by decide +kernel
theorem dL_law_1063 : decode cL_law 1063 = .ok (.invokevirtual 143, 3) := by decide +kernel
theorem dL_law_1066 : decode cL_law 1066 = .ok (.lcmp, 1) := by decide +kernel
theorem dL_law_1067 : decode cL_law 1067 = .ok (.ifCond .eq 54, 3) := by decide +kernel
theorem dL_law_1070 : decode cL_law 1070 = .ok (.iconst 0, 1) := by decide +kernel
theorem dL_law_1071 : decode cL_law 1071 = .ok (.ireturn, 1) := by decide +kernel
theorem dL_law_1072 : decode cL_law 1072 = .ok (.aload_n 1, 1) := by decide +kernel
theorem dL_law_1073 : decode cL_law 1073 = .ok (.invokevirtual 144, 3) := by decide +kernel
theorem dL_law_1076 : decode cL_law 1076 = .ok (.aload_n 2, 1) := by decide +kernel
theorem dL_law_1077 : decode cL_law 1077 = .ok (.invokevirtual 147, 3) := by decide +kernel
theorem dL_law_1080 : decode cL_law 1080 = .ok (.if_icmp .eq 41, 3) := by decide +kernel
theorem dL_law_1083 : decode cL_law 1083 = .ok (.iconst 0, 1) := by decide +kernel
theorem dL_law_1084 : decode cL_law 1084 = .ok (.ireturn, 1) := by decide +kernel
theorem dL_law_1085 : decode cL_law 1085 = .ok (.aload_n 1, 1) := by decide +kernel
theorem dL_law_1086 : decode cL_law 1086 = .ok (.aload_n 0, 1) := by decide +kernel
theorem dL_law_1087 : decode cL_law 1087 = .ok (.iload_n 3, 1) := by decide +kernel
theorem dL_law_1088 : decode cL_law 1088 = .ok (.iconst 1, 1) := by decide +kernel
theorem dL_law_1089 : decode cL_law 1089 = .ok (.iadd, 1) := by decide +kernel
theorem dL_law_1090 : decode cL_law 1090 = .ok (.iaload, 1) := by decide +kernel
theorem dL_law_1091 : decode cL_law 1091 = .ok (.invokevirtual 148, 3) := by decide +kernel
theorem dL_law_1094 : decode cL_law 1094 = .ok (.aload_n 2, 1) := by decide +kernel
theorem dL_law_1095 : decode cL_law 1095 = .ok (.aload_n 0, 1) := by decide +kernel
theorem dL_law_1096 : decode cL_law 1096 = .ok (.iload_n 3, 1) := by decide +kernel
theorem dL_law_1097 : decode cL_law 1097 = .ok (.iconst 1, 1) := by decide +kernel
theorem dL_law_1098 : decode cL_law 1098 = .ok (.iadd, 1) := by decide +kernel
theorem dL_law_1099 : decode cL_law 1099 = .ok (.iaload, 1) := by decide +kernel
theorem dL_law_1100 : decode cL_law 1100 = .ok (.invokevirtual 151, 3) := by decide +kernel
theorem dL_law_1103 : decode cL_law 1103 = .ok (.if_icmp .eq 18, 3) := by decide +kernel
theorem dL_law_1106 : decode cL_law 1106 = .ok (.iconst 0, 1) := by decide +kernel
theorem dL_law_1107 : decode cL_law 1107 = .ok (.ireturn, 1) := by decide +kernel
theorem dL_law_1108 : decode cL_law 1108 = .ok (.aload_n 1, 1) := by decide +kernel
theorem dL_law_1109 : decode cL_law 1109 = .ok (.invokevirtual 152, 3) := by decide +kernel
theorem dL_law_1112 : decode cL_law 1112 = .ok (.aload_n 2, 1) := by decide +kernel
theorem dL_law_1113 : decode cL_law 1113 = .ok (.invokevirtual 156, 3) := by decide +kernel
theorem dL_law_1116 : decode cL_law 1116 = .ok (.if_icmp .eq 5, 3) := by decide +kernel
theorem dL_law_1119 : decode cL_law 1119 = .ok (.iconst 0, 1) := by decide +kernel
theorem dL_law_1120 : decode cL_law 1120 = .ok (.ireturn, 1) := by decide +kernel
theorem dL_law_1121 : decode cL_law 1121 = .ok (.iinc 3 6, 3) := by decide +kernel
theorem dL_law_1124 : decode cL_law 1124 = .ok (.goto (-1106), 3) := by decide +kernel
theorem dL_law_1127 : decode cL_law 1127 = .ok (.iconst 1, 1) := by decide +kernel
theorem dL_law_1128 : decode cL_law 1128 = .ok (.ireturn, 1) := by decide +kernel
