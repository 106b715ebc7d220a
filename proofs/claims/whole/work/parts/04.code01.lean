theorem dX5_readPart_48 : decode cX5_readPart 48 = .ok (.invokevirtual 191, 3) := by decide +kernel
theorem dX5_readPart_51 : decode cX5_readPart 51 = .ok (.ifCond .eq 23, 3) := by decide +kernel
theorem dX5_readPart_54 : decode cX5_readPart 54 = .ok (.aload_n 0, 1) := by decide +kernel
theorem dX5_readPart_55 : decode cX5_readPart 55 = .ok (.invokevirtual 150, 3) := by decide +kernel
theorem dX5_readPart_58 : decode cX5_readPart 58 = .ok (.ifCond .eq 16, 3) := by decide +kernel
theorem dX5_readPart_61 : decode cX5_readPart 61 = .ok (.aload_n 0, 1) := by decide +kernel
theorem dX5_readPart_62 : decode cX5_readPart 62 = .ok (.bipush 41, 2) := by decide +kernel
theorem dX5_readPart_64 : decode cX5_readPart 64 = .ok (.invokevirtual 101, 3) := by decide +kernel
theorem dX5_readPart_67 : decode cX5_readPart 67 = .ok (.ifCond .eq 7, 3) := by decide +kernel
theorem dX5_readPart_70 : decode cX5_readPart 70 = .ok (.iconst 1, 1) := by decide +kernel
theorem dX5_readPart_71 : decode cX5_readPart 71 = .ok (.goto 4, 3) := by decide +kernel
theorem dX5_readPart_74 : decode cX5_readPart 74 = .ok (.iconst 0, 1) := by decide +kernel
theorem dX5_readPart_75 : decode cX5_readPart 75 = .ok (.ireturn, 1) := by decide +kernel
theorem dX5_readPart_76 : decode cX5_readPart 76 = .ok (.aload_n 0, 1) := by decide +kernel
theorem dX5_readPart_77 : decode cX5_readPart 77 = .ok (.getfield 78, 3) := by decide +kernel
theorem dX5_readPart_80 : decode cX5_readPart 80 = .ok (.bipush 17, 2) := by decide +kernel
theorem dX5_readPart_82 : decode cX5_readPart 82 = .ok (.if_icmp .eq 12, 3) := by decide +kernel
theorem dX5_readPart_85 : decode cX5_readPart 85 = .ok (.aload_n 0, 1) := by decide +kernel
theorem dX5_readPart_86 : decode cX5_readPart 86 = .ok (.getfield 78, 3) := by decide +kernel
theorem dX5_readPart_89 : decode cX5_readPart 89 = .ok (.bipush 18, 2) := by decide +kernel
theorem dX5_readPart_91 : decode cX5_readPart 91 = .ok (.if_icmp .ne 22, 3) := by decide +kernel
theorem dX5_readPart_94 : decode cX5_readPart 94 = .ok (.aload_n 0, 1) := by decide +kernel
theorem dX5_readPart_95 : decode cX5_readPart 95 = .ok (.aload_n 0, 1) := by decide +kernel
theorem dX5_readPart_96 : decode cX5_readPart 96 = .ok (.getfield 78, 3) := by decide +kernel
theorem dX5_readPart_99 : decode cX5_readPart 99 = .ok (.bipush 17, 2) := by decide +kernel
theorem dX5_readPart_101 : decode cX5_readPart 101 = .ok (.if_icmp .ne 7, 3) := by decide +kernel
theorem dX5_readPart_104 : decode cX5_readPart 104 = .ok (.iconst 4, 1) := by decide +kernel
theorem dX5_readPart_105 : decode cX5_readPart 105 = .ok (.goto 4, 3) := by decide +kernel
theorem dX5_readPart_108 : decode cX5_readPart 108 = .ok (.iconst 5, 1) := by decide +kernel
theorem dX5_readPart_109 : decode cX5_readPart 109 = .ok (.invokevirtual 204, 3) := by decide +kernel
theorem dX5_readPart_112 : decode cX5_readPart 112 = .ok (.ireturn, 1) := by decide +kernel
theorem dX5_readPart_113 : decode cX5_readPart 113 = .ok (.aload_n 0, 1) := by decide +kernel
theorem dX5_readPart_114 : decode cX5_readPart 114 = .ok (.getfield 78, 3) := by decide +kernel
theorem dX5_readPart_117 : decode cX5_readPart 117 = .ok (.bipush 12, 2) := by decide +kernel
theorem dX5_readPart_119 : decode cX5_readPart 119 = .ok (.if_icmp .lt 34, 3) := by decide +kernel
theorem dX5_readPart_122 : decode cX5_readPart 122 = .ok (.aload_n 0, 1) := by decide +kernel
theorem dX5_readPart_123 : decode cX5_readPart 123 = .ok (.getfield 78, 3) := by decide +kernel
theorem dX5_readPart_126 : decode cX5_readPart 126 = .ok (.bipush 16, 2) := by decide +kernel
theorem dX5_readPart_128 : decode cX5_readPart 128 = .ok (.if_icmp .gt 25, 3) := by decide +kernel
theorem dX5_readPart_131 : decode cX5_readPart 131 = .ok (.aload_n 0, 1) := by decide +kernel
theorem dX5_readPart_132 : decode cX5_readPart 132 = .ok (.getfield 32, 3) := by decide +kernel
theorem dX5_readPart_135 : decode cX5_readPart 135 = .ok (.bipush 20, 2) := by decide +kernel
theorem dX5_readPart_137 : decode cX5_readPart 137 = .ok (.aload_n 0, 1) := by decide +kernel
theorem dX5_readPart_138 : decode cX5_readPart 138 = .ok (.getfield 78, 3) := by decide +kernel
theorem dX5_readPart_141 : decode cX5_readPart 141 = .ok (.iadd, 1) := by decide +kernel
theorem dX5_readPart_142 : decode cX5_readPart 142 = .ok (.bipush 12, 2) := by decide +kernel
theorem dX5_readPart_144 : decode cX5_readPart 144 = .ok (.isub, 1) := by decide +kernel
theorem dX5_readPart_145 : decode cX5_readPart 145 = .ok (.invokevirtual 184, 3) := by decide +kernel
theorem dX5_readPart_148 : decode cX5_readPart 148 = .ok (.aload_n 0, 1) := by decide +kernel
theorem dX5_readPart_149 : decode cX5_readPart 149 = .ok (.invokevirtual 71, 3) := by decide +kernel
theorem dX5_readPart_152 : decode cX5_readPart 152 = .ok (.ireturn, 1) := by decide +kernel
theorem dX5_readPart_153 : decode cX5_readPart 153 = .ok (.aload_n 0, 1) := by decide +kernel
theorem dX5_readPart_154 : decode cX5_readPart 154 = .ok (.iconst 1, 1) := by decide +kernel
theorem dX5_readPart_155 : decode cX5_readPart 155 = .ok (.aload_n 0, 1) := by decide +kernel
theorem dX5_readPart_156 : decode cX5_readPart 156 = .ok (.getfield 94, 3) := by decide +kernel
theorem dX5_readPart_159 : decode cX5_readPart 159 = .ok (.invokevirtual 97, 3) := by decide +kernel
theorem dX5_readPart_162 : decode cX5_readPart 162 = .ok (.ireturn, 1) := by decide +kernel
theorem dX5_readChoice_0 : decode cX5_readChoice 0 = .ok (.aload_n 0, 1) := by decide +kernel
theorem dX5_readChoice_1 : decode cX5_readChoice 1 = .ok (.invokevirtual 71, 3) := by decide +kernel
theorem dX5_readChoice_4 : decode cX5_readChoice 4 = .ok (.pop, 1) := by decide +kernel
theorem dX5_readChoice_5 : decode cX5_readChoice 5 = .ok (.aload_n 0, 1) := by decide +kernel
theorem dX5_readChoice_6 : decode cX5_readChoice 6 = .ok (.bipush 40, 2) := by decide +kernel
theorem dX5_readChoice_8 : decode cX5_readChoice 8 = .ok (.invokevirtual 125, 3) := by decide +kernel
theorem dX5_readChoice_11 : decode cX5_readChoice 11 = .ok (.ifCond .ne 13, 3) := by decide +kernel
theorem dX5_readChoice_14 : decode cX5_readChoice 14 = .ok (.aload_n 0, 1) := by decide +kernel
theorem dX5_readChoice_15 : decode cX5_readChoice 15 = .ok (.iconst 1, 1) := by decide +kernel
theorem dX5_readChoice_16 : decode cX5_readChoice 16 = .ok (.aload_n 0, 1) := by decide +kernel
theorem dX5_readChoice_17 : decode cX5_readChoice 17 = .ok (.getfield 94, 3) := by decide +kernel
theorem dX5_readChoice_20 : decode cX5_readChoice 20 = .ok (.invokevirtual 97, 3) := by decide +kernel
theorem dX5_readChoice_23 : decode cX5_readChoice 23 = .ok (.ireturn, 1) := by decide +kernel
theorem dX5_readChoice_24 : decode cX5_readChoice 24 = .ok (.aload_n 0, 1) := by decide +kernel
theorem dX5_readChoice_25 : decode cX5_readChoice 25 = .ok (.invokevirtual 191, 3) := by decide +kernel
theorem dX5_readChoice_28 : decode cX5_readChoice 28 = .ok (.ifCond .eq 35, 3) := by decide +kernel
theorem dX5_readChoice_31 : decode cX5_readChoice 31 = .ok (.aload_n 0, 1) := by decide +kernel
theorem dX5_readChoice_32 : decode cX5_readChoice 32 = .ok (.invokevirtual 150, 3) := by decide +kernel
theorem dX5_readChoice_35 : decode cX5_readChoice 35 = .ok (.ifCond .eq 28, 3) := by decide +kernel
theorem dX5_readChoice_38 : decode cX5_readChoice 38 = .ok (.aload_n 0, 1) := by decide +kernel
theorem dX5_readChoice_39 : decode cX5_readChoice 39 = .ok (.bipush 44, 2) := by decide +kernel
theorem dX5_readChoice_41 : decode cX5_readChoice 41 = .ok (.invokevirtual 101, 3) := by decide +kernel
theorem dX5_readChoice_44 : decode cX5_readChoice 44 = .ok (.ifCond .eq 19, 3) := by decide +kernel
theorem dX5_readChoice_47 : decode cX5_readChoice 47 = .ok (.aload_n 0, 1) := by decide +kernel
theorem dX5_readChoice_48 : decode cX5_readChoice 48 = .ok (.invokevirtual 150, 3) := by decide +kernel
theorem dX5_readChoice_51 : decode cX5_readChoice 51 = .ok (.ifCond .eq 12, 3) := by decide +kernel
theorem dX5_readChoice_54 : decode cX5_readChoice 54 = .ok (.aload_n 0, 1) := by decide +kernel
theorem dX5_readChoice_55 : decode cX5_readChoice 55 = .ok (.bipush 41, 2) := by decide +kernel
theorem dX5_readChoice_57 : decode cX5_readChoice 57 = .ok (.invokevirtual 101, 3) := by decide +kernel
theorem dX5_readChoice_60 : decode cX5_readChoice 60 = .ok (.ifCond .ne 5, 3) := by decide +kernel
theorem dX5_readChoice_63 : decode cX5_readChoice 63 = .ok (.iconst 0, 1) := by decide +kernel
theorem dX5_readChoice_64 : decode cX5_readChoice 64 = .ok (.ireturn, 1) := by decide +kernel
theorem dX5_readChoice_65 : decode cX5_readChoice 65 = .ok (.aload_n 0, 1) := by decide +kernel
theorem dX5_readChoice_66 : decode cX5_readChoice 66 = .ok (.getfield 32, 3) := by decide +kernel
theorem dX5_readChoice_69 : decode cX5_readChoice 69 = .ok (.iload_n 1, 1) := by decide +kernel
theorem dX5_readChoice_70 : decode cX5_readChoice 70 = .ok (.invokevirtual 184, 3) := by decide +kernel
theorem dX5_readChoice_73 : decode cX5_readChoice 73 = .ok (.iconst 1, 1) := by decide +kernel
theorem dX5_readChoice_74 : decode cX5_readChoice 74 = .ok (.ireturn, 1) := by decide +kernel
theorem dX6_init_0 : decode cX6_init 0 = .ok (.aload_n 0, 1) := by decide +kernel
theorem dX6_init_1 : decode cX6_init 1 = .ok (.invokespecial 3, 3) := by decide +kernel
theorem dX6_init_4 : decode cX6_init 4 = .ok (.aload_n 0, 1) := by decide +kernel
theorem dX6_init_5 : decode cX6_init 5 = .ok (.bipush 20, 2) := by decide +kernel
theorem dX6_init_7 : decode cX6_init 7 = .ok (.newarray .int, 2) := by decide +kernel
theorem dX6_init_9 : decode cX6_init 9 = .ok (.putfield 9, 3) := by decide +kernel
theorem dX6_init_12 : decode cX6_init 12 = .ok (.aload_n 0, 1) := by decide +kernel
theorem dX6_init_13 : decode cX6_init 13 = .ok (.bipush 20, 2) := by decide +kernel
theorem dX6_init_15 : decode cX6_init 15 = .ok (.newarray .int, 2) := by decide +kernel
theorem dX6_init_17 : decode cX6_init 17 = .ok (.putfield 15, 3) := by decide +kernel
theorem dX6_init_20 : decode cX6_init 20 = .ok (.aload_n 0, 1) := by decide +kernel
theorem dX6_init_21 : decode cX6_init 21 = .ok (.bipush 20, 2) := by decide +kernel
theorem dX6_init_23 : decode cX6_init 23 = .ok (.newarray .int, 2) := by decide +kernel
theorem dX6_init_25 : decode cX6_init 25 = .ok (.putfield 18, 3) := by decide +kernel
theorem dX6_init_28 : decode cX6_init 28 = .ok (.aload_n 0, 1) := by decide +kernel
theorem dX6_init_29 : decode cX6_init 29 = .ok (.bipush 20, 2) := by decide +kernel
theorem dX6_init_31 : decode cX6_init 31 = .ok (.newarray .int, 2) := by decide +kernel
theorem dX6_init_33 : decode cX6_init 33 = .ok (.putfield 21, 3) := by decide +kernel
theorem dX6_init_36 : decode cX6_init 36 = .ok (.aload_n 0, 1) := by decide +kernel
theorem dX6_init_37 : decode cX6_init 37 = .ok (.sipush 800, 3) := by decide +kernel
theorem dX6_init_40 : decode cX6_init 40 = .ok (.newarray .int, 2) := by decide +kernel
theorem dX6_init_42 : decode cX6_init 42 = .ok (.putfield 24, 3) := by decide +kernel
theorem dX6_init_45 : decode cX6_init 45 = .ok (.aload_n 0, 1) := by decide +kernel
theorem dX6_init_46 : decode cX6_init 46 = .ok (.bipush 64, 2) := by decide +kernel
theorem dX6_init_48 : decode cX6_init 48 = .ok (.newarray .long, 2) := by decide +kernel
theorem dX6_init_50 : decode cX6_init 50 = .ok (.putfield 27, 3) := by decide +kernel
theorem dX6_init_53 : decode cX6_init 53 = .ok (.aload_n 0, 1) := by decide +kernel
theorem dX6_init_54 : decode cX6_init 54 = .ok (.iconst 5, 1) := by decide +kernel
theorem dX6_init_55 : decode cX6_init 55 = .ok (.newarray .int, 2) := by decide +kernel
theorem dX6_init_57 : decode cX6_init 57 = .ok (.putfield 31, 3) := by decide +kernel
theorem dX6_init_60 : decode cX6_init 60 = .ok (.return_, 1) := by decide +kernel
theorem dX6_clear_0 : decode cX6_clear 0 = .ok (.aload_n 0, 1) := by decide +kernel
theorem dX6_clear_1 : decode cX6_clear 1 = .ok (.iconst 0, 1) := by decide +kernel
theorem dX6_clear_2 : decode cX6_clear 2 = .ok (.putfield 34, 3) := by decide +kernel
theorem dX6_clear_5 : decode cX6_clear 5 = .ok (.aload_n 0, 1) := by decide +kernel
theorem dX6_clear_6 : decode cX6_clear 6 = .ok (.iconst 0, 1) := by decide +kernel
theorem dX6_clear_7 : decode cX6_clear 7 = .ok (.putfield 38, 3) := by decide +kernel
theorem dX6_clear_10 : decode cX6_clear 10 = .ok (.return_, 1) := by decide +kernel
theorem dX6_copy_0 : decode cX6_copy 0 = .ok (.aload_n 0, 1) := by decide +kernel
theorem dX6_copy_1 : decode cX6_copy 1 = .ok (.aload_n 1, 1) := by decide +kernel
theorem dX6_copy_2 : decode cX6_copy 2 = .ok (.getfield 34, 3) := by decide +kernel
theorem dX6_copy_5 : decode cX6_copy 5 = .ok (.putfield 34, 3) := by decide +kernel
theorem dX6_copy_8 : decode cX6_copy 8 = .ok (.aload_n 0, 1) := by decide +kernel
theorem dX6_copy_9 : decode cX6_copy 9 = .ok (.aload_n 1, 1) := by decide +kernel
theorem dX6_copy_10 : decode cX6_copy 10 = .ok (.getfield 38, 3) := by decide +kernel
theorem dX6_copy_13 : decode cX6_copy 13 = .ok (.putfield 38, 3) := by decide +kernel
theorem dX6_copy_16 : decode cX6_copy 16 = .ok (.aload_n 1, 1) := by decide +kernel
theorem dX6_copy_17 : decode cX6_copy 17 = .ok (.getfield 9, 3) := by decide +kernel
theorem dX6_copy_20 : decode cX6_copy 20 = .ok (.iconst 0, 1) := by decide +kernel
theorem dX6_copy_21 : decode cX6_copy 21 = .ok (.aload_n 0, 1) := by decide +kernel
theorem dX6_copy_22 : decode cX6_copy 22 = .ok (.getfield 9, 3) := by decide +kernel
theorem dX6_copy_25 : decode cX6_copy 25 = .ok (.iconst 0, 1) := by decide +kernel
theorem dX6_copy_26 : decode cX6_copy 26 = .ok (.aload_n 0, 1) := by decide +kernel
theorem dX6_copy_27 : decode cX6_copy 27 = .ok (.getfield 9, 3) := by decide +kernel
theorem dX6_copy_30 : decode cX6_copy 30 = .ok (.arraylength, 1) := by decide +kernel
theorem dX6_copy_31 : decode cX6_copy 31 = .ok (.invokestatic 41, 3) := by decide +kernel
theorem dX6_copy_34 : decode cX6_copy 34 = .ok (.aload_n 1, 1) := by decide +kernel
theorem dX6_copy_35 : decode cX6_copy 35 = .ok (.getfield 15, 3) := by decide +kernel
theorem dX6_copy_38 : decode cX6_copy 38 = .ok (.iconst 0, 1) := by decide +kernel
theorem dX6_copy_39 : decode cX6_copy 39 = .ok (.aload_n 0, 1) := by decide +kernel
theorem dX6_copy_40 : decode cX6_copy 40 = .ok (.getfield 15, 3) := by decide +kernel
theorem dX6_copy_43 : decode cX6_copy 43 = .ok (.iconst 0, 1) := by decide +kernel
theorem dX6_copy_44 : decode cX6_copy 44 = .ok (.aload_n 0, 1) := by decide +kernel
theorem dX6_copy_45 : decode cX6_copy 45 = .ok (.getfield 15, 3) := by decide +kernel
theorem dX6_copy_48 : decode cX6_copy 48 = .ok (.arraylength, 1) := by decide +kernel
theorem dX6_copy_49 : decode cX6_copy 49 = .ok (.invokestatic 41, 3) := by decide +kernel
theorem dX6_copy_52 : decode cX6_copy 52 = .ok (.aload_n 1, 1) := by decide +kernel
theorem dX6_copy_53 : decode cX6_copy 53 = .ok (.getfield 18, 3) := by decide +kernel
theorem dX6_copy_56 : decode cX6_copy 56 = .ok (.iconst 0, 1) := by decide +kernel
theorem dX6_copy_57 : decode cX6_copy 57 = .ok (.aload_n 0, 1) := by decide +kernel
theorem dX6_copy_58 : decode cX6_copy 58 = .ok (.getfield 18, 3) := by decide +kernel
theorem dX6_copy_61 : decode cX6_copy 61 = .ok (.iconst 0, 1) := by decide +kernel
theorem dX6_copy_62 : decode cX6_copy 62 = .ok (.aload_n 0, 1) := by decide +kernel
theorem dX6_copy_63 : decode cX6_copy 63 = .ok (.getfield 18, 3) := by decide +kernel
theorem dX6_copy_66 : decode cX6_copy 66 = .ok (.arraylength, 1) := by decide +kernel
theorem dX6_copy_67 : decode cX6_copy 67 = .ok (.invokestatic 41, 3) := by decide +kernel
theorem dX6_copy_70 : decode cX6_copy 70 = .ok (.aload_n 1, 1) := by decide +kernel
theorem dX6_copy_71 : decode cX6_copy 71 = .ok (.getfield 21, 3) := by decide +kernel
theorem dX6_copy_74 : decode cX6_copy 74 = .ok (.iconst 0, 1) := by decide +kernel
theorem dX6_copy_75 : decode cX6_copy 75 = .ok (.aload_n 0, 1) := by decide +kernel
theorem dX6_copy_76 : decode cX6_copy 76 = .ok (.getfield 21, 3) := by decide +kernel
theorem dX6_copy_79 : decode cX6_copy 79 = .ok (.iconst 0, 1) := by decide +kernel
theorem dX6_copy_80 : decode cX6_copy 80 = .ok (.aload_n 0, 1) := by decide +kernel
theorem dX6_copy_81 : decode cX6_copy 81 = .ok (.getfield 21, 3) := by decide +kernel
theorem dX6_copy_84 : decode cX6_copy 84 = .ok (.arraylength, 1) := by decide +kernel
theorem dX6_copy_85 : decode cX6_copy 85 = .ok (.invokestatic 41, 3) := by decide +kernel
theorem dX6_copy_88 : decode cX6_copy 88 = .ok (.aload_n 1, 1) := by decide +kernel
theorem dX6_copy_89 : decode cX6_copy 89 = .ok (.getfield 24, 3) := by decide +kernel
theorem dX6_copy_92 : decode cX6_copy 92 = .ok (.iconst 0, 1) := by decide +kernel
theorem dX6_copy_93 : decode cX6_copy 93 = .ok (.aload_n 0, 1) := by decide +kernel
theorem dX6_copy_94 : decode cX6_copy 94 = .ok (.getfield 24, 3) := by decide +kernel
theorem dX6_copy_97 : decode cX6_copy 97 = .ok (.iconst 0, 1) := by decide +kernel
theorem dX6_copy_98 : decode cX6_copy 98 = .ok (.aload_n 0, 1) := by decide +kernel
theorem dX6_copy_99 : decode cX6_copy 99 = .ok (.getfield 24, 3) := by decide +kernel
theorem dX6_copy_102 : decode cX6_copy 102 = .ok (.arraylength, 1) := by decide +kernel
theorem dX6_copy_103 : decode cX6_copy 103 = .ok (.invokestatic 41, 3) := by decide +kernel
theorem dX6_copy_106 : decode cX6_copy 106 = .ok (.return_, 1) := by decide +kernel
theorem dX6_emit_0 : decode cX6_emit 0 = .ok (.aload_n 0, 1) := by decide +kernel
theorem dX6_emit_1 : decode cX6_emit 1 = .ok (.getfield 38, 3) := by decide +kernel
theorem dX6_emit_4 : decode cX6_emit 4 = .ok (.aload_n 0, 1) := by decide +kernel
theorem dX6_emit_5 : decode cX6_emit 5 = .ok (.getfield 24, 3) := by decide +kernel
theorem dX6_emit_8 : decode cX6_emit 8 = .ok (.arraylength, 1) := by decide +kernel
theorem dX6_emit_9 : decode cX6_emit 9 = .ok (.if_icmp .ge 23, 3) := by decide +kernel
theorem dX6_emit_12 : decode cX6_emit 12 = .ok (.aload_n 0, 1) := by decide +kernel
theorem dX6_emit_13 : decode cX6_emit 13 = .ok (.getfield 24, 3) := by decide +kernel
theorem dX6_emit_16 : decode cX6_emit 16 = .ok (.aload_n 0, 1) := by decide +kernel
theorem dX6_emit_17 : decode cX6_emit 17 = .ok (.getfield 38, 3) := by decide +kernel
theorem dX6_emit_20 : decode cX6_emit 20 = .ok (.iload_n 1, 1) := by decide +kernel
theorem dX6_emit_21 : decode cX6_emit 21 = .ok (.iastore, 1) := by decide +kernel
theorem dX6_emit_22 : decode cX6_emit 22 = .ok (.aload_n 0, 1) := by decide +kernel
theorem dX6_emit_23 : decode cX6_emit 23 = .ok (.dup, 1) := by decide +kernel
theorem dX6_emit_24 : decode cX6_emit 24 = .ok (.getfield 38, 3) := by decide +kernel
theorem dX6_emit_27 : decode cX6_emit 27 = .ok (.iconst 1, 1) := by decide +kernel
theorem dX6_emit_28 : decode cX6_emit 28 = .ok (.iadd, 1) := by decide +kernel
theorem dX6_emit_29 : decode cX6_emit 29 = .ok (.putfield 38, 3) := by decide +kernel
theorem dX6_emit_32 : decode cX6_emit 32 = .ok (.return_, 1) := by decide +kernel
theorem dX6_add_0 : decode cX6_add 0 = .ok (.aload_n 0, 1) := by decide +kernel
theorem dX6_add_1 : decode cX6_add 1 = .ok (.getfield 34, 3) := by decide +kernel
theorem dX6_add_4 : decode cX6_add 4 = .ok (.bipush 20, 2) := by decide +kernel
theorem dX6_add_6 : decode cX6_add 6 = .ok (.if_icmp .ge 56, 3) := by decide +kernel
theorem dX6_add_9 : decode cX6_add 9 = .ok (.aload_n 0, 1) := by decide +kernel
theorem dX6_add_10 : decode cX6_add 10 = .ok (.getfield 9, 3) := by decide +kernel
theorem dX6_add_13 : decode cX6_add 13 = .ok (.aload_n 0, 1) := by decide +kernel
theorem dX6_add_14 : decode cX6_add 14 = .ok (.getfield 34, 3) := by decide +kernel
theorem dX6_add_17 : decode cX6_add 17 = .ok (.iload_n 1, 1) := by decide +kernel
theorem dX6_add_18 : decode cX6_add 18 = .ok (.iastore, 1) := by decide +kernel
theorem dX6_add_19 : decode cX6_add 19 = .ok (.aload_n 0, 1) := by decide +kernel
theorem dX6_add_20 : decode cX6_add 20 = .ok (.getfield 15, 3) := by decide +kernel
theorem dX6_add_23 : decode cX6_add 23 = .ok (.aload_n 0, 1) := by decide +kernel
theorem dX6_add_24 : decode cX6_add 24 = .ok (.getfield 34, 3) := by decide +kernel
theorem dX6_add_27 : decode cX6_add 27 = .ok (.iload_n 2, 1) := by decide +kernel
theorem dX6_add_28 : decode cX6_add 28 = .ok (.iastore, 1) := by decide +kernel
theorem dX6_add_29 : decode cX6_add 29 = .ok (.aload_n 0, 1) := by decide +kernel
theorem dX6_add_30 : decode cX6_add 30 = .ok (.getfield 18, 3) := by decide +kernel
theorem dX6_add_33 : decode cX6_add 33 = .ok (.aload_n 0, 1) := by decide +kernel
theorem dX6_add_34 : decode cX6_add 34 = .ok (.getfield 34, 3) := by decide +kernel
theorem dX6_add_37 : decode cX6_add 37 = .ok (.iload_n 3, 1) := by decide +kernel
theorem dX6_add_38 : decode cX6_add 38 = .ok (.iastore, 1) := by decide +kernel
theorem dX6_add_39 : decode cX6_add 39 = .ok (.aload_n 0, 1) := by decide +kernel
theorem dX6_add_40 : decode cX6_add 40 = .ok (.getfield 21, 3) := by decide +kernel
theorem dX6_add_43 : decode cX6_add 43 = .ok (.aload_n 0, 1) := by decide +kernel
theorem dX6_add_44 : decode cX6_add 44 = .ok (.getfield 34, 3) := by decide +kernel
theorem dX6_add_47 : decode cX6_add 47 = .ok (.aload_n 0, 1) := by decide +kernel
theorem dX6_add_48 : decode cX6_add 48 = .ok (.getfield 38, 3) := by decide +kernel
theorem dX6_add_51 : decode cX6_add 51 = .ok (.iastore, 1) := by decide +kernel
theorem dX6_add_52 : decode cX6_add 52 = .ok (.aload_n 0, 1) := by decide +kernel
theorem dX6_add_53 : decode cX6_add 53 = .ok (.dup, 1) := by decide +kernel
theorem dX6_add_54 : decode cX6_add 54 = .ok (.getfield 34, 3) := by decide +kernel
theorem dX6_add_57 : decode cX6_add 57 = .ok (.iconst 1, 1) := by decide +kernel
theorem dX6_add_58 : decode cX6_add 58 = .ok (.iadd, 1) := by decide +kernel
theorem dX6_add_59 : decode cX6_add 59 = .ok (.putfield 34, 3) := by decide +kernel
theorem dX6_add_62 : decode cX6_add 62 = .ok (.return_, 1) := by decide +kernel
theorem dX6_countOf_0 : decode cX6_countOf 0 = .ok (.iconst 0, 1) := by decide +kernel
theorem dX6_countOf_1 : decode cX6_countOf 1 = .ok (.istore_n 2, 1) := by decide +kernel
theorem dX6_countOf_2 : decode cX6_countOf 2 = .ok (.iconst 0, 1) := by decide +kernel
theorem dX6_countOf_3 : decode cX6_countOf 3 = .ok (.istore_n 3, 1) := by decide +kernel
theorem dX6_countOf_4 : decode cX6_countOf 4 = .ok (.iload_n 3, 1) := by decide +kernel
theorem dX6_countOf_5 : decode cX6_countOf 5 = .ok (.aload_n 0, 1) := by decide +kernel
theorem dX6_countOf_6 : decode cX6_countOf 6 = .ok (.getfield 34, 3) := by decide +kernel
theorem dX6_countOf_9 : decode cX6_countOf 9 = .ok (.if_icmp .ge 27, 3) := by decide +kernel
theorem dX6_countOf_12 : decode cX6_countOf 12 = .ok (.iload_n 2, 1) := by decide +kernel
theorem dX6_countOf_13 : decode cX6_countOf 13 = .ok (.aload_n 0, 1) := by decide +kernel
theorem dX6_countOf_14 : decode cX6_countOf 14 = .ok (.getfield 9, 3) := by decide +kernel
theorem dX6_countOf_17 : decode cX6_countOf 17 = .ok (.iload_n 3, 1) := by decide +kernel
theorem dX6_countOf_18 : decode cX6_countOf 18 = .ok (.iaload, 1) := by decide +kernel
theorem dX6_countOf_19 : decode cX6_countOf 19 = .ok (.iload_n 1, 1) := by decide +kernel
theorem dX6_countOf_20 : decode cX6_countOf 20 = .ok (.if_icmp .ne 7, 3) := by decide +kernel
theorem dX6_countOf_23 : decode cX6_countOf 23 = .ok (.iconst 1, 1) := by decide +kernel
theorem dX6_countOf_24 : decode cX6_countOf 24 = .ok (.goto 4, 3) := by decide +kernel
theorem dX6_countOf_27 : decode cX6_countOf 27 = .ok (.iconst 0, 1) := by decide +kernel
theorem dX6_countOf_28 : decode cX6_countOf 28 = .ok (.iadd, 1) := by decide +kernel
theorem dX6_countOf_29 : decode cX6_countOf 29 = .ok (.istore_n 2, 1) := by decide +kernel
theorem dX6_countOf_30 : decode cX6_countOf 30 = .ok (.iinc 3 1, 3) := by decide +kernel
theorem dX6_countOf_33 : decode cX6_countOf 33 = .ok (.goto (-29), 3) := by decide +kernel
theorem dX6_countOf_36 : decode cX6_countOf 36 = .ok (.iload_n 2, 1) := by decide +kernel
theorem dX6_countOf_37 : decode cX6_countOf 37 = .ok (.ireturn, 1) := by decide +kernel
theorem dX6_firstSum_0 : decode cX6_firstSum 0 = .ok (.iconst 0, 1) := by decide +kernel
theorem dX6_firstSum_1 : decode cX6_firstSum 1 = .ok (.istore_n 2, 1) := by decide +kernel
theorem dX6_firstSum_2 : decode cX6_firstSum 2 = .ok (.iload_n 2, 1) := by decide +kernel
theorem dX6_firstSum_3 : decode cX6_firstSum 3 = .ok (.aload_n 0, 1) := by decide +kernel
theorem dX6_firstSum_4 : decode cX6_firstSum 4 = .ok (.getfield 34, 3) := by decide +kernel
theorem dX6_firstSum_7 : decode cX6_firstSum 7 = .ok (.if_icmp .ge 137, 3) := by decide +kernel
theorem dX6_firstSum_10 : decode cX6_firstSum 10 = .ok (.aload_n 0, 1) := by decide +kernel
theorem dX6_firstSum_11 : decode cX6_firstSum 11 = .ok (.getfield 9, 3) := by decide +kernel
theorem dX6_firstSum_14 : decode cX6_firstSum 14 = .ok (.iload_n 2, 1) := by decide +kernel
theorem dX6_firstSum_15 : decode cX6_firstSum 15 = .ok (.iaload, 1) := by decide +kernel
theorem dX6_firstSum_16 : decode cX6_firstSum 16 = .ok (.iload_n 1, 1) := by decide +kernel
theorem dX6_firstSum_17 : decode cX6_firstSum 17 = .ok (.if_icmp .ne 121, 3) := by decide +kernel
theorem dX6_firstSum_20 : decode cX6_firstSum 20 = .ok (.iconst 0, 1) := by decide +kernel
theorem dX6_firstSum_21 : decode cX6_firstSum 21 = .ok (.istore_n 3, 1) := by decide +kernel
theorem dX6_firstSum_22 : decode cX6_firstSum 22 = .ok (.aload_n 0, 1) := by decide +kernel
theorem dX6_firstSum_23 : decode cX6_firstSum 23 = .ok (.getfield 18, 3) := by decide +kernel
theorem dX6_firstSum_26 : decode cX6_firstSum 26 = .ok (.iload_n 2, 1) := by decide +kernel
theorem dX6_firstSum_27 : decode cX6_firstSum 27 = .ok (.iaload, 1) := by decide +kernel
theorem dX6_firstSum_28 : decode cX6_firstSum 28 = .ok (.istore 4, 2) := by decide +kernel
theorem dX6_firstSum_30 : decode cX6_firstSum 30 = .ok (.iload 4, 2) := by decide +kernel
theorem dX6_firstSum_32 : decode cX6_firstSum 32 = .ok (.aload_n 0, 1) := by decide +kernel
theorem dX6_firstSum_33 : decode cX6_firstSum 33 = .ok (.getfield 21, 3) := by decide +kernel
theorem dX6_firstSum_36 : decode cX6_firstSum 36 = .ok (.iload_n 2, 1) := by decide +kernel
theorem dX6_firstSum_37 : decode cX6_firstSum 37 = .ok (.iaload, 1) := by decide +kernel
theorem dX6_firstSum_38 : decode cX6_firstSum 38 = .ok (.if_icmp .ge 32, 3) := by decide +kernel
theorem dX6_firstSum_41 : decode cX6_firstSum 41 = .ok (.iload 4, 2) := by decide +kernel
theorem dX6_firstSum_43 : decode cX6_firstSum 43 = .ok (.aload_n 0, 1) := by decide +kernel
theorem dX6_firstSum_44 : decode cX6_firstSum 44 = .ok (.getfield 24, 3) := by decide +kernel
theorem dX6_firstSum_47 : decode cX6_firstSum 47 = .ok (.arraylength, 1) := by decide +kernel
theorem dX6_firstSum_48 : decode cX6_firstSum 48 = .ok (.if_icmp .ge 22, 3) := by decide +kernel
theorem dX6_firstSum_51 : decode cX6_firstSum 51 = .ok (.aload_n 0, 1) := by decide +kernel
theorem dX6_firstSum_52 : decode cX6_firstSum 52 = .ok (.aload_n 0, 1) := by decide +kernel
theorem dX6_firstSum_53 : decode cX6_firstSum 53 = .ok (.getfield 24, 3) := by decide +kernel
theorem dX6_firstSum_56 : decode cX6_firstSum 56 = .ok (.iload 4, 2) := by decide +kernel
theorem dX6_firstSum_58 : decode cX6_firstSum 58 = .ok (.iaload, 1) := by decide +kernel
theorem dX6_firstSum_59 : decode cX6_firstSum 59 = .ok (.iload_n 3, 1) := by decide +kernel
theorem dX6_firstSum_60 : decode cX6_firstSum 60 = .ok (.invokevirtual 47, 3) := by decide +kernel
theorem dX6_firstSum_63 : decode cX6_firstSum 63 = .ok (.istore_n 3, 1) := by decide +kernel
theorem dX6_firstSum_64 : decode cX6_firstSum 64 = .ok (.iinc 4 1, 3) := by decide +kernel
theorem dX6_firstSum_67 : decode cX6_firstSum 67 = .ok (.goto (-37), 3) := by decide +kernel
theorem dX6_firstSum_70 : decode cX6_firstSum 70 = .ok (.aload_n 0, 1) := by decide +kernel
theorem dX6_firstSum_71 : decode cX6_firstSum 71 = .ok (.getfield 27, 3) := by decide +kernel
theorem dX6_firstSum_74 : decode cX6_firstSum 74 = .ok (.iconst 0, 1) := by decide +kernel
theorem dX6_firstSum_75 : decode cX6_firstSum 75 = .ok (.laload, 1) := by decide +kernel
theorem dX6_firstSum_76 : decode cX6_firstSum 76 = .ok (.lconst 0, 1) := by decide +kernel
theorem dX6_firstSum_77 : decode cX6_firstSum 77 = .ok (.lcmp, 1) := by decide +kernel
theorem dX6_firstSum_78 : decode cX6_firstSum 78 = .ok (.ifCond .eq 60, 3) := by decide +kernel
theorem dX6_firstSum_81 : decode cX6_firstSum 81 = .ok (.iconst 0, 1) := by decide +kernel
theorem dX6_firstSum_82 : decode cX6_firstSum 82 = .ok (.istore_n 3, 1) := by decide +kernel
theorem dX6_firstSum_83 : decode cX6_firstSum 83 = .ok (.aload_n 0, 1) := by decide +kernel
theorem dX6_firstSum_84 : decode cX6_firstSum 84 = .ok (.getfield 15, 3) := by decide +kernel
theorem dX6_firstSum_87 : decode cX6_firstSum 87 = .ok (.iload_n 2, 1) := by decide +kernel
theorem dX6_firstSum_88 : decode cX6_firstSum 88 = .ok (.iaload, 1) := by decide +kernel
theorem dX6_firstSum_89 : decode cX6_firstSum 89 = .ok (.istore 4, 2) := by decide +kernel
theorem dX6_firstSum_91 : decode cX6_firstSum 91 = .ok (.iload 4, 2) := by decide +kernel
theorem dX6_firstSum_93 : decode cX6_firstSum 93 = .ok (.aload_n 0, 1) := by decide +kernel
theorem dX6_firstSum_94 : decode cX6_firstSum 94 = .ok (.getfield 18, 3) := by decide +kernel
theorem dX6_firstSum_97 : decode cX6_firstSum 97 = .ok (.iload_n 2, 1) := by decide +kernel
theorem dX6_firstSum_98 : decode cX6_firstSum 98 = .ok (.iaload, 1) := by decide +kernel
theorem dX6_firstSum_99 : decode cX6_firstSum 99 = .ok (.if_icmp .ge 32, 3) := by decide +kernel
theorem dX6_firstSum_102 : decode cX6_firstSum 102 = .ok (.iload 4, 2) := by decide +kernel
theorem dX6_firstSum_104 : decode cX6_firstSum 104 = .ok (.aload_n 0, 1) := by decide +kernel
theorem dX6_firstSum_105 : decode cX6_firstSum 105 = .ok (.getfield 24, 3) := by decide +kernel
theorem dX6_firstSum_108 : decode cX6_firstSum 108 = .ok (.arraylength, 1) := by decide +kernel
theorem dX6_firstSum_109 : decode cX6_firstSum 109 = .ok (.if_icmp .ge 22, 3) := by decide +kernel
theorem dX6_firstSum_112 : decode cX6_firstSum 112 = .ok (.aload_n 0, 1) := by decide +kernel
theorem dX6_firstSum_113 : decode cX6_firstSum 113 = .ok (.aload_n 0, 1) := by decide +kernel
theorem dX6_firstSum_114 : decode cX6_firstSum 114 = .ok (.getfield 24, 3) := by decide +kernel
theorem dX6_firstSum_117 : decode cX6_firstSum 117 = .ok (.iload 4, 2) := by decide +kernel
theorem dX6_firstSum_119 : decode cX6_firstSum 119 = .ok (.iaload, 1) := by decide +kernel
theorem dX6_firstSum_120 : decode cX6_firstSum 120 = .ok (.iload_n 3, 1) := by decide +kernel
theorem dX6_firstSum_121 : decode cX6_firstSum 121 = .ok (.invokevirtual 47, 3) := by decide +kernel
theorem dX6_firstSum_124 : decode cX6_firstSum 124 = .ok (.istore_n 3, 1) := by decide +kernel
theorem dX6_firstSum_125 : decode cX6_firstSum 125 = .ok (.iinc 4 1, 3) := by decide +kernel
theorem dX6_firstSum_128 : decode cX6_firstSum 128 = .ok (.goto (-37), 3) := by decide +kernel
theorem dX6_firstSum_131 : decode cX6_firstSum 131 = .ok (.aload_n 0, 1) := by decide +kernel
theorem dX6_firstSum_132 : decode cX6_firstSum 132 = .ok (.getfield 27, 3) := by decide +kernel
theorem dX6_firstSum_135 : decode cX6_firstSum 135 = .ok (.iconst 0, 1) := by decide +kernel
theorem dX6_firstSum_136 : decode cX6_firstSum 136 = .ok (.laload, 1) := by decide +kernel
theorem dX6_firstSum_137 : decode cX6_firstSum 137 = .ok (.lreturn, 1) := by decide +kernel
theorem dX6_firstSum_138 : decode cX6_firstSum 138 = .ok (.iinc 2 1, 3) := by decide +kernel
theorem dX6_firstSum_141 : decode cX6_firstSum 141 = .ok (.goto (-139), 3) := by decide +kernel
theorem dX6_firstSum_144 : decode cX6_firstSum 144 = .ok (.lconst 0, 1) := by decide +kernel
theorem dX6_firstSum_145 : decode cX6_firstSum 145 = .ok (.lreturn, 1) := by decide +kernel
theorem dX6_apply_0 : decode cX6_apply 0 = .ok (.iload_n 1, 1) := by decide +kernel
theorem dX6_apply_1 : decode cX6_apply 1 = .ok (.bipush 12, 2) := by decide +kernel
theorem dX6_apply_3 : decode cX6_apply 3 = .ok (.if_icmp .lt 85, 3) := by decide +kernel
theorem dX6_apply_6 : decode cX6_apply 6 = .ok (.iload_n 2, 1) := by decide +kernel
theorem dX6_apply_7 : decode cX6_apply 7 = .ok (.bipush 64, 2) := by decide +kernel
theorem dX6_apply_9 : decode cX6_apply 9 = .ok (.if_icmp .ge 75, 3) := by decide +kernel
theorem dX6_apply_12 : decode cX6_apply 12 = .ok (.aload_n 0, 1) := by decide +kernel
theorem dX6_apply_13 : decode cX6_apply 13 = .ok (.getfield 27, 3) := by decide +kernel
theorem dX6_apply_16 : decode cX6_apply 16 = .ok (.iload_n 2, 1) := by decide +kernel
theorem dX6_apply_17 : decode cX6_apply 17 = .ok (.iload_n 1, 1) := by decide +kernel
theorem dX6_apply_18 : decode cX6_apply 18 = .ok (.bipush 100, 2) := by decide +kernel
theorem dX6_apply_20 : decode cX6_apply 20 = .ok (.if_icmp .lt 11, 3) := by decide +kernel
theorem dX6_apply_23 : decode cX6_apply 23 = .ok (.iload_n 1, 1) := by decide +kernel
theorem dX6_apply_24 : decode cX6_apply 24 = .ok (.bipush 100, 2) := by decide +kernel
theorem dX6_apply_26 : decode cX6_apply 26 = .ok (.isub, 1) := by decide +kernel
theorem dX6_apply_27 : decode cX6_apply 27 = .ok (.i2l, 1) := by decide +kernel
theorem dX6_apply_28 : decode cX6_apply 28 = .ok (.goto 55, 3) := by decide +kernel
theorem dX6_apply_31 : decode cX6_apply 31 = .ok (.iload_n 1, 1) := by decide +kernel
theorem dX6_apply_32 : decode cX6_apply 32 = .ok (.bipush 30, 2) := by decide +kernel
theorem dX6_apply_34 : decode cX6_apply 34 = .ok (.if_icmp .lt 23, 3) := by decide +kernel
theorem dX6_apply_37 : decode cX6_apply 37 = .ok (.iload_n 1, 1) := by decide +kernel
theorem dX6_apply_38 : decode cX6_apply 38 = .ok (.bipush 30, 2) := by decide +kernel
theorem dX6_apply_40 : decode cX6_apply 40 = .ok (.isub, 1) := by decide +kernel
theorem dX6_apply_41 : decode cX6_apply 41 = .ok (.aload_n 0, 1) := by decide +kernel
theorem dX6_apply_42 : decode cX6_apply 42 = .ok (.getfield 51, 3) := by decide +kernel
theorem dX6_apply_45 : decode cX6_apply 45 = .ok (.if_icmp .ne 7, 3) := by decide +kernel
theorem dX6_apply_48 : decode cX6_apply 48 = .ok (.iconst 1, 1) := by decide +kernel
theorem dX6_apply_49 : decode cX6_apply 49 = .ok (.goto 4, 3) := by decide +kernel
theorem dX6_apply_52 : decode cX6_apply 52 = .ok (.iconst 0, 1) := by decide +kernel
theorem dX6_apply_53 : decode cX6_apply 53 = .ok (.i2l, 1) := by decide +kernel
theorem dX6_apply_54 : decode cX6_apply 54 = .ok (.goto 29, 3) := by decide +kernel
theorem dX6_apply_57 : decode cX6_apply 57 = .ok (.iload_n 1, 1) := by decide +kernel
theorem dX6_apply_58 : decode cX6_apply 58 = .ok (.bipush 20, 2) := by decide +kernel
theorem dX6_apply_60 : decode cX6_apply 60 = .ok (.if_icmp .lt 22, 3) := by decide +kernel
theorem dX6_apply_63 : decode cX6_apply 63 = .ok (.iload_n 1, 1) := by decide +kernel
theorem dX6_apply_64 : decode cX6_apply 64 = .ok (.bipush 25, 2) := by decide +kernel
theorem dX6_apply_66 : decode cX6_apply 66 = .ok (.if_icmp .ge 16, 3) := by decide +kernel
theorem dX6_apply_69 : decode cX6_apply 69 = .ok (.aload_n 0, 1) := by decide +kernel
theorem dX6_apply_70 : decode cX6_apply 70 = .ok (.getfield 31, 3) := by decide +kernel
theorem dX6_apply_73 : decode cX6_apply 73 = .ok (.iload_n 1, 1) := by decide +kernel
theorem dX6_apply_74 : decode cX6_apply 74 = .ok (.bipush 20, 2) := by decide +kernel
theorem dX6_apply_76 : decode cX6_apply 76 = .ok (.isub, 1) := by decide +kernel
theorem dX6_apply_77 : decode cX6_apply 77 = .ok (.iaload, 1) := by decide +kernel
theorem dX6_apply_78 : decode cX6_apply 78 = .ok (.i2l, 1) := by decide +kernel
theorem dX6_apply_79 : decode cX6_apply 79 = .ok (.goto 4, 3) := by decide +kernel
theorem dX6_apply_82 : decode cX6_apply 82 = .ok (.lconst 1, 1) := by decide +kernel
theorem dX6_apply_83 : decode cX6_apply 83 = .ok (.lastore, 1) := by decide +kernel
theorem dX6_apply_84 : decode cX6_apply 84 = .ok (.iload_n 2, 1) := by decide +kernel
theorem dX6_apply_85 : decode cX6_apply 85 = .ok (.iconst 1, 1) := by decide +kernel
theorem dX6_apply_86 : decode cX6_apply 86 = .ok (.iadd, 1) := by decide +kernel
theorem dX6_apply_87 : decode cX6_apply 87 = .ok (.ireturn, 1) := by decide +kernel
theorem dX6_apply_88 : decode cX6_apply 88 = .ok (.iload_n 2, 1) := by decide +kernel
theorem dX6_apply_89 : decode cX6_apply 89 = .ok (.iload_n 1, 1) := by decide +kernel
theorem dX6_apply_90 : decode cX6_apply 90 = .ok (.bipush 11, 2) := by decide +kernel
theorem dX6_apply_92 : decode cX6_apply 92 = .ok (.if_icmp .ne 7, 3) := by decide +kernel
theorem dX6_apply_95 : decode cX6_apply 95 = .ok (.iconst 1, 1) := by decide +kernel
theorem dX6_apply_96 : decode cX6_apply 96 = .ok (.goto 4, 3) := by decide +kernel
theorem dX6_apply_99 : decode cX6_apply 99 = .ok (.iconst 2, 1) := by decide +kernel
theorem dX6_apply_100 : decode cX6_apply 100 = .ok (.if_icmp .lt 9, 3) := by decide +kernel
theorem dX6_apply_103 : decode cX6_apply 103 = .ok (.iload_n 2, 1) := by decide +kernel
theorem dX6_apply_104 : decode cX6_apply 104 = .ok (.bipush 64, 2) := by decide +kernel
theorem dX6_apply_106 : decode cX6_apply 106 = .ok (.if_icmp .le 5, 3) := by decide +kernel
theorem dX6_apply_109 : decode cX6_apply 109 = .ok (.iload_n 2, 1) := by decide +kernel
theorem dX6_apply_110 : decode cX6_apply 110 = .ok (.ireturn, 1) := by decide +kernel
theorem dX6_apply_111 : decode cX6_apply 111 = .ok (.iload_n 1, 1) := by decide +kernel
theorem dX6_apply_112 : decode cX6_apply 112 = .ok (.bipush 11, 2) := by decide +kernel
theorem dX6_apply_114 : decode cX6_apply 114 = .ok (.if_icmp .ne 23, 3) := by decide +kernel
theorem dX6_apply_117 : decode cX6_apply 117 = .ok (.aload_n 0, 1) := by decide +kernel
theorem dX6_apply_118 : decode cX6_apply 118 = .ok (.getfield 27, 3) := by decide +kernel
theorem dX6_apply_121 : decode cX6_apply 121 = .ok (.iload_n 2, 1) := by decide +kernel
theorem dX6_apply_122 : decode cX6_apply 122 = .ok (.iconst 1, 1) := by decide +kernel
theorem dX6_apply_123 : decode cX6_apply 123 = .ok (.isub, 1) := by decide +kernel
theorem dX6_apply_124 : decode cX6_apply 124 = .ok (.lconst 1, 1) := by decide +kernel
theorem dX6_apply_125 : decode cX6_apply 125 = .ok (.aload_n 0, 1) := by decide +kernel
theorem dX6_apply_126 : decode cX6_apply 126 = .ok (.getfield 27, 3) := by decide +kernel
theorem dX6_apply_129 : decode cX6_apply 129 = .ok (.iload_n 2, 1) := by decide +kernel
theorem dX6_apply_130 : decode cX6_apply 130 = .ok (.iconst 1, 1) := by decide +kernel
theorem dX6_apply_131 : decode cX6_apply 131 = .ok (.isub, 1) := by decide +kernel
theorem dX6_apply_132 : decode cX6_apply 132 = .ok (.laload, 1) := by decide +kernel
theorem dX6_apply_133 : decode cX6_apply 133 = .ok (.lsub, 1) := by decide +kernel
theorem dX6_apply_134 : decode cX6_apply 134 = .ok (.lastore, 1) := by decide +kernel
theorem dX6_apply_135 : decode cX6_apply 135 = .ok (.iload_n 2, 1) := by decide +kernel
theorem dX6_apply_136 : decode cX6_apply 136 = .ok (.ireturn, 1) := by decide +kernel
theorem dX6_apply_137 : decode cX6_apply 137 = .ok (.aload_n 0, 1) := by decide +kernel
theorem dX6_apply_138 : decode cX6_apply 138 = .ok (.getfield 27, 3) := by decide +kernel
theorem dX6_apply_141 : decode cX6_apply 141 = .ok (.iload_n 2, 1) := by decide +kernel
theorem dX6_apply_142 : decode cX6_apply 142 = .ok (.iconst 2, 1) := by decide +kernel
theorem dX6_apply_143 : decode cX6_apply 143 = .ok (.isub, 1) := by decide +kernel
theorem dX6_apply_144 : decode cX6_apply 144 = .ok (.laload, 1) := by decide +kernel
theorem dX6_apply_145 : decode cX6_apply 145 = .ok (.lstore_n 3, 1) := by decide +kernel
theorem dX6_apply_146 : decode cX6_apply 146 = .ok (.aload_n 0, 1) := by decide +kernel
theorem dX6_apply_147 : decode cX6_apply 147 = .ok (.getfield 27, 3) := by decide +kernel
theorem dX6_apply_150 : decode cX6_apply 150 = .ok (.iload_n 2, 1) := by decide +kernel
theorem dX6_apply_151 : decode cX6_apply 151 = .ok (.iconst 1, 1) := by decide +kernel
theorem dX6_apply_152 : decode cX6_apply 152 = .ok (.isub, 1) := by decide +kernel
theorem dX6_apply_153 : decode cX6_apply 153 = .ok (.laload, 1) := by decide +kernel
theorem dX6_apply_154 : decode cX6_apply 154 = .ok (.lstore 5, 2) := by decide +kernel
theorem dX6_apply_156 : decode cX6_apply 156 = .ok (.lconst 0, 1) := by decide +kernel
theorem dX6_apply_157 : decode cX6_apply 157 = .ok (.lstore 7, 2) := by decide +kernel
theorem dX6_apply_159 : decode cX6_apply 159 = .ok (.iload_n 1, 1) := by decide +kernel
theorem dX6_apply_160 : decode cX6_apply 160 = .ok (.tableswitch 254 0 10 #[60, 69, 78, 87, 149, 167, 185, 202, 219, 236, 245], 60) := by decide +kernel
theorem dX6_apply_220 : decode cX6_apply 220 = .ok (.lload_n 3, 1) := by decide +kernel
theorem dX6_apply_221 : decode cX6_apply 221 = .ok (.lload 5, 2) := by decide +kernel
theorem dX6_apply_223 : decode cX6_apply 223 = .ok (.ladd, 1) := by decide +kernel
theorem dX6_apply_224 : decode cX6_apply 224 = .ok (.lstore 7, 2) := by decide +kernel
theorem dX6_apply_226 : decode cX6_apply 226 = .ok (.goto 188, 3) := by decide +kernel
theorem dX6_apply_229 : decode cX6_apply 229 = .ok (.lload_n 3, 1) := by decide +kernel
theorem dX6_apply_230 : decode cX6_apply 230 = .ok (.lload 5, 2) := by decide +kernel
theorem dX6_apply_232 : decode cX6_apply 232 = .ok (.lsub, 1) := by decide +kernel
theorem dX6_apply_233 : decode cX6_apply 233 = .ok (.lstore 7, 2) := by decide +kernel
theorem dX6_apply_235 : decode cX6_apply 235 = .ok (.goto 179, 3) := by decide +kernel
theorem dX6_apply_238 : decode cX6_apply 238 = .ok (.lload_n 3, 1) := by decide +kernel
theorem dX6_apply_239 : decode cX6_apply 239 = .ok (.lload 5, 2) := by decide +kernel
theorem dX6_apply_241 : decode cX6_apply 241 = .ok (.lmul, 1) := by decide +kernel
theorem dX6_apply_242 : decode cX6_apply 242 = .ok (.lstore 7, 2) := by decide +kernel
theorem dX6_apply_244 : decode cX6_apply 244 = .ok (.goto 170, 3) := by decide +kernel
theorem dX6_apply_247 : decode cX6_apply 247 = .ok (.lload 5, 2) := by decide +kernel
theorem dX6_apply_249 : decode cX6_apply 249 = .ok (.lconst 0, 1) := by decide +kernel
theorem dX6_apply_250 : decode cX6_apply 250 = .ok (.lcmp, 1) := by decide +kernel
theorem dX6_apply_251 : decode cX6_apply 251 = .ok (.ifCond .ne 7, 3) := by decide +kernel
theorem dX6_apply_254 : decode cX6_apply 254 = .ok (.lconst 0, 1) := by decide +kernel
theorem dX6_apply_255 : decode cX6_apply 255 = .ok (.goto 49, 3) := by decide +kernel
theorem dX6_apply_258 : decode cX6_apply 258 = .ok (.lload_n 3, 1) := by decide +kernel
theorem dX6_apply_259 : decode cX6_apply 259 = .ok (.lload 5, 2) := by decide +kernel
theorem dX6_apply_261 : decode cX6_apply 261 = .ok (.ldiv, 1) := by decide +kernel
theorem dX6_apply_262 : decode cX6_apply 262 = .ok (.lload_n 3, 1) := by decide +kernel
theorem dX6_apply_263 : decode cX6_apply 263 = .ok (.lload 5, 2) := by decide +kernel
theorem dX6_apply_265 : decode cX6_apply 265 = .ok (.lrem, 1) := by decide +kernel
theorem dX6_apply_266 : decode cX6_apply 266 = .ok (.lconst 0, 1) := by decide +kernel
theorem dX6_apply_267 : decode cX6_apply 267 = .ok (.lcmp, 1) := by decide +kernel
theorem dX6_apply_268 : decode cX6_apply 268 = .ok (.ifCond .eq 33, 3) := by decide +kernel
theorem dX6_apply_271 : decode cX6_apply 271 = .ok (.lload_n 3, 1) := by decide +kernel
theorem dX6_apply_272 : decode cX6_apply 272 = .ok (.lconst 0, 1) := by decide +kernel
theorem dX6_apply_273 : decode cX6_apply 273 = .ok (.lcmp, 1) := by decide +kernel
theorem dX6_apply_274 : decode cX6_apply 274 = .ok (.ifCond .ge 7, 3) := by decide +kernel
theorem dX6_apply_277 : decode cX6_apply 277 = .ok (.iconst 1, 1) := by decide +kernel
theorem dX6_apply_278 : decode cX6_apply 278 = .ok (.goto 4, 3) := by decide +kernel
theorem dX6_apply_281 : decode cX6_apply 281 = .ok (.iconst 0, 1) := by decide +kernel
theorem dX6_apply_282 : decode cX6_apply 282 = .ok (.lload 5, 2) := by decide +kernel
theorem dX6_apply_284 : decode cX6_apply 284 = .ok (.lconst 0, 1) := by decide +kernel
theorem dX6_apply_285 : decode cX6_apply 285 = .ok (.lcmp, 1) := by decide +kernel
theorem dX6_apply_286 : decode cX6_apply 286 = .ok (.ifCond .ge 7, 3) := by decide +kernel
theorem dX6_apply_289 : decode cX6_apply 289 = .ok (.iconst 1, 1) := by decide +kernel
theorem dX6_apply_290 : decode cX6_apply 290 = .ok (.goto 4, 3) := by decide +kernel
theorem dX6_apply_293 : decode cX6_apply 293 = .ok (.iconst 0, 1) := by decide +kernel
theorem dX6_apply_294 : decode cX6_apply 294 = .ok (.if_icmp .eq 7, 3) := by decide +kernel
theorem dX6_apply_297 : decode cX6_apply 297 = .ok (.iconst 1, 1) := by decide +kernel
theorem dX6_apply_298 : decode cX6_apply 298 = .ok (.goto 4, 3) := by decide +kernel
theorem dX6_apply_301 : decode cX6_apply 301 = .ok (.iconst 0, 1) := by decide +kernel
theorem dX6_apply_302 : decode cX6_apply 302 = .ok (.i2l, 1) := by decide +kernel
theorem dX6_apply_303 : decode cX6_apply 303 = .ok (.lsub, 1) := by decide +kernel
theorem dX6_apply_304 : decode cX6_apply 304 = .ok (.lstore 7, 2) := by decide +kernel
theorem dX6_apply_306 : decode cX6_apply 306 = .ok (.goto 108, 3) := by decide +kernel
theorem dX6_apply_309 : decode cX6_apply 309 = .ok (.lload_n 3, 1) := by decide +kernel
theorem dX6_apply_310 : decode cX6_apply 310 = .ok (.lload 5, 2) := by decide +kernel
theorem dX6_apply_312 : decode cX6_apply 312 = .ok (.lcmp, 1) := by decide +kernel
theorem dX6_apply_313 : decode cX6_apply 313 = .ok (.ifCond .ge 7, 3) := by decide +kernel
theorem dX6_apply_316 : decode cX6_apply 316 = .ok (.lload_n 3, 1) := by decide +kernel
theorem dX6_apply_317 : decode cX6_apply 317 = .ok (.goto 5, 3) := by decide +kernel
theorem dX6_apply_320 : decode cX6_apply 320 = .ok (.lload 5, 2) := by decide +kernel
theorem dX6_apply_322 : decode cX6_apply 322 = .ok (.lstore 7, 2) := by decide +kernel
theorem dX6_apply_324 : decode cX6_apply 324 = .ok (.goto 90, 3) := by decide +kernel
theorem dX6_apply_327 : decode cX6_apply 327 = .ok (.lload_n 3, 1) := by decide +kernel
theorem dX6_apply_328 : decode cX6_apply 328 = .ok (.lload 5, 2) := by decide +kernel
theorem dX6_apply_330 : decode cX6_apply 330 = .ok (.lcmp, 1) := by decide +kernel
theorem dX6_apply_331 : decode cX6_apply 331 = .ok (.ifCond .le 7, 3) := by decide +kernel
theorem dX6_apply_334 : decode cX6_apply 334 = .ok (.lload_n 3, 1) := by decide +kernel
theorem dX6_apply_335 : decode cX6_apply 335 = .ok (.goto 5, 3) := by decide +kernel
theorem dX6_apply_338 : decode cX6_apply 338 = .ok (.lload 5, 2) := by decide +kernel
theorem dX6_apply_340 : decode cX6_apply 340 = .ok (.lstore 7, 2) := by decide +kernel
theorem dX6_apply_342 : decode cX6_apply 342 = .ok (.goto 72, 3) := by decide +kernel
theorem dX6_apply_345 : decode cX6_apply 345 = .ok (.lload_n 3, 1) := by decide +kernel
theorem dX6_apply_346 : decode cX6_apply 346 = .ok (.lload 5, 2) := by decide +kernel
theorem dX6_apply_348 : decode cX6_apply 348 = .ok (.lcmp, 1) := by decide +kernel
theorem dX6_apply_349 : decode cX6_apply 349 = .ok (.ifCond .ge 7, 3) := by decide +kernel
theorem dX6_apply_352 : decode cX6_apply 352 = .ok (.lconst 1, 1) := by decide +kernel
theorem dX6_apply_353 : decode cX6_apply 353 = .ok (.goto 4, 3) := by decide +kernel
theorem dX6_apply_356 : decode cX6_apply 356 = .ok (.lconst 0, 1) := by decide +kernel
theorem dX6_apply_357 : decode cX6_apply 357 = .ok (.lstore 7, 2) := by decide +kernel
theorem dX6_apply_359 : decode cX6_apply 359 = .ok (.goto 55, 3) := by decide +kernel
theorem dX6_apply_362 : decode cX6_apply 362 = .ok (.lload_n 3, 1) := by decide +kernel
theorem dX6_apply_363 : decode cX6_apply 363 = .ok (.lload 5, 2) := by decide +kernel
theorem dX6_apply_365 : decode cX6_apply 365 = .ok (.lcmp, 1) := by decide +kernel
theorem dX6_apply_366 : decode cX6_apply 366 = .ok (.ifCond .le 7, 3) := by decide +kernel
theorem dX6_apply_369 : decode cX6_apply 369 = .ok (.lconst 1, 1) := by decide +kernel
theorem dX6_apply_370 : decode cX6_apply 370 = .ok (.goto 4, 3) := by decide +kernel
theorem dX6_apply_373 : decode cX6_apply 373 = .ok (.lconst 0, 1) := by decide +kernel
theorem dX6_apply_374 : decode cX6_apply 374 = .ok (.lstore 7, 2) := by decide +kernel
theorem dX6_apply_376 : decode cX6_apply 376 = .ok (.goto 38, 3) := by decide +kernel
theorem dX6_apply_379 : decode cX6_apply 379 = .ok (.lload_n 3, 1) := by decide +kernel
theorem dX6_apply_380 : decode cX6_apply 380 = .ok (.lload 5, 2) := by decide +kernel
theorem dX6_apply_382 : decode cX6_apply 382 = .ok (.lcmp, 1) := by decide +kernel
theorem dX6_apply_383 : decode cX6_apply 383 = .ok (.ifCond .ne 7, 3) := by decide +kernel
theorem dX6_apply_386 : decode cX6_apply 386 = .ok (.lconst 1, 1) := by decide +kernel
theorem dX6_apply_387 : decode cX6_apply 387 = .ok (.goto 4, 3) := by decide +kernel
theorem dX6_apply_390 : decode cX6_apply 390 = .ok (.lconst 0, 1) := by decide +kernel
theorem dX6_apply_391 : decode cX6_apply 391 = .ok (.lstore 7, 2) := by decide +kernel
theorem dX6_apply_393 : decode cX6_apply 393 = .ok (.goto 21, 3) := by decide +kernel
theorem dX6_apply_396 : decode cX6_apply 396 = .ok (.lload_n 3, 1) := by decide +kernel
theorem dX6_apply_397 : decode cX6_apply 397 = .ok (.lload 5, 2) := by decide +kernel
theorem dX6_apply_399 : decode cX6_apply 399 = .ok (.land, 1) := by decide +kernel
theorem dX6_apply_400 : decode cX6_apply 400 = .ok (.lstore 7, 2) := by decide +kernel
theorem dX6_apply_402 : decode cX6_apply 402 = .ok (.goto 12, 3) := by decide +kernel
theorem dX6_apply_405 : decode cX6_apply 405 = .ok (.lload_n 3, 1) := by decide +kernel
theorem dX6_apply_406 : decode cX6_apply 406 = .ok (.lload 5, 2) := by decide +kernel
theorem dX6_apply_408 : decode cX6_apply 408 = .ok (.lor, 1) := by decide +kernel
theorem dX6_apply_409 : decode cX6_apply 409 = .ok (.lstore 7, 2) := by decide +kernel
theorem dX6_apply_411 : decode cX6_apply 411 = .ok (.goto 3, 3) := by decide +kernel
theorem dX6_apply_414 : decode cX6_apply 414 = .ok (.aload_n 0, 1) := by decide +kernel
theorem dX6_apply_415 : decode cX6_apply 415 = .ok (.getfield 27, 3) := by decide +kernel
theorem dX6_apply_418 : decode cX6_apply 418 = .ok (.iload_n 2, 1) := by decide +kernel
theorem dX6_apply_419 : decode cX6_apply 419 = .ok (.iconst 2, 1) := by decide +kernel
theorem dX6_apply_420 : decode cX6_apply 420 = .ok (.isub, 1) := by decide +kernel
theorem dX6_apply_421 : decode cX6_apply 421 = .ok (.lload 7, 2) := by decide +kernel
theorem dX6_apply_423 : decode cX6_apply 423 = .ok (.ldc2_w 54, 3) := by decide +kernel
theorem dX6_apply_426 : decode cX6_apply 426 = .ok (.lcmp, 1) := by decide +kernel
theorem dX6_apply_427 : decode cX6_apply 427 = .ok (.ifCond .le 9, 3) := by decide +kernel
theorem dX6_apply_430 : decode cX6_apply 430 = .ok (.ldc2_w 54, 3) := by decide +kernel
theorem dX6_apply_433 : decode cX6_apply 433 = .ok (.goto 20, 3) := by decide +kernel
theorem dX6_apply_436 : decode cX6_apply 436 = .ok (.lload 7, 2) := by decide +kernel
theorem dX6_apply_438 : decode cX6_apply 438 = .ok (.ldc2_w 56, 3) := by decide +kernel
theorem dX6_apply_441 : decode cX6_apply 441 = .ok (.lcmp, 1) := by decide +kernel
theorem dX6_apply_442 : decode cX6_apply 442 = .ok (.ifCond .ge 9, 3) := by decide +kernel
theorem dX6_apply_445 : decode cX6_apply 445 = .ok (.ldc2_w 56, 3) := by decide +kernel
theorem dX6_apply_448 : decode cX6_apply 448 = .ok (.goto 5, 3) := by decide +kernel
theorem dX6_apply_451 : decode cX6_apply 451 = .ok (.lload 7, 2) := by decide +kernel
theorem dX6_apply_453 : decode cX6_apply 453 = .ok (.lastore, 1) := by decide +kernel
theorem dX6_apply_454 : decode cX6_apply 454 = .ok (.iload_n 2, 1) := by decide +kernel
theorem dX6_apply_455 : decode cX6_apply 455 = .ok (.iconst 1, 1) := by decide +kernel
theorem dX6_apply_456 : decode cX6_apply 456 = .ok (.isub, 1) := by decide +kernel
theorem dX6_apply_457 : decode cX6_apply 457 = .ok (.ireturn, 1) := by decide +kernel
theorem dX7_init_0 : decode cX7_init 0 = .ok (.aload_n 0, 1) := by decide +kernel
theorem dX7_init_1 : decode cX7_init 1 = .ok (.invokespecial 3, 3) := by decide +kernel
theorem dX7_init_4 : decode cX7_init 4 = .ok (.aload_n 0, 1) := by decide +kernel
theorem dX7_init_5 : decode cX7_init 5 = .ok (.sipush 800, 3) := by decide +kernel
theorem dX7_init_8 : decode cX7_init 8 = .ok (.newarray .int, 2) := by decide +kernel
theorem dX7_init_10 : decode cX7_init 10 = .ok (.putfield 9, 3) := by decide +kernel
theorem dX7_init_13 : decode cX7_init 13 = .ok (.return_, 1) := by decide +kernel
theorem dX7_add_0 : decode cX7_add 0 = .ok (.bipush 24, 2) := by decide +kernel
theorem dX7_add_2 : decode cX7_add 2 = .ok (.istore_n 2, 1) := by decide +kernel
theorem dX7_add_3 : decode cX7_add 3 = .ok (.iload_n 2, 1) := by decide +kernel
theorem dX7_add_4 : decode cX7_add 4 = .ok (.ifCond .lt 54, 3) := by decide +kernel
theorem dX7_add_7 : decode cX7_add 7 = .ok (.aload_n 0, 1) := by decide +kernel
theorem dX7_add_8 : decode cX7_add 8 = .ok (.getfield 15, 3) := by decide +kernel
theorem dX7_add_11 : decode cX7_add 11 = .ok (.ifCond .lt 41, 3) := by decide +kernel
theorem dX7_add_14 : decode cX7_add 14 = .ok (.aload_n 0, 1) := by decide +kernel
theorem dX7_add_15 : decode cX7_add 15 = .ok (.getfield 15, 3) := by decide +kernel
theorem dX7_add_18 : decode cX7_add 18 = .ok (.aload_n 0, 1) := by decide +kernel
theorem dX7_add_19 : decode cX7_add 19 = .ok (.getfield 9, 3) := by decide +kernel
theorem dX7_add_22 : decode cX7_add 22 = .ok (.arraylength, 1) := by decide +kernel
theorem dX7_add_23 : decode cX7_add 23 = .ok (.if_icmp .ge 29, 3) := by decide +kernel
theorem dX7_add_26 : decode cX7_add 26 = .ok (.aload_n 0, 1) := by decide +kernel
theorem dX7_add_27 : decode cX7_add 27 = .ok (.getfield 9, 3) := by decide +kernel
theorem dX7_add_30 : decode cX7_add 30 = .ok (.aload_n 0, 1) := by decide +kernel
theorem dX7_add_31 : decode cX7_add 31 = .ok (.getfield 15, 3) := by decide +kernel
theorem dX7_add_34 : decode cX7_add 34 = .ok (.iload_n 1, 1) := by decide +kernel
theorem dX7_add_35 : decode cX7_add 35 = .ok (.iload_n 2, 1) := by decide +kernel
theorem dX7_add_36 : decode cX7_add 36 = .ok (.ishr, 1) := by decide +kernel
theorem dX7_add_37 : decode cX7_add 37 = .ok (.sipush 255, 3) := by decide +kernel
theorem dX7_add_40 : decode cX7_add 40 = .ok (.iand, 1) := by decide +kernel
theorem dX7_add_41 : decode cX7_add 41 = .ok (.iastore, 1) := by decide +kernel
theorem dX7_add_42 : decode cX7_add 42 = .ok (.aload_n 0, 1) := by decide +kernel
theorem dX7_add_43 : decode cX7_add 43 = .ok (.dup, 1) := by decide +kernel
theorem dX7_add_44 : decode cX7_add 44 = .ok (.getfield 15, 3) := by decide +kernel
theorem dX7_add_47 : decode cX7_add 47 = .ok (.iconst 1, 1) := by decide +kernel
theorem dX7_add_48 : decode cX7_add 48 = .ok (.iadd, 1) := by decide +kernel
theorem dX7_add_49 : decode cX7_add 49 = .ok (.putfield 15, 3) := by decide +kernel
theorem dX7_add_52 : decode cX7_add 52 = .ok (.iinc 2 (-8), 3) := by decide +kernel
theorem dX7_add_55 : decode cX7_add 55 = .ok (.goto (-52), 3) := by decide +kernel
theorem dX7_add_58 : decode cX7_add 58 = .ok (.return_, 1) := by decide +kernel
theorem dX7_at_0 : decode cX7_at 0 = .ok (.iload_n 1, 1) := by decide +kernel
theorem dX7_at_1 : decode cX7_at 1 = .ok (.ifCond .lt 29, 3) := by decide +kernel
theorem dX7_at_4 : decode cX7_at 4 = .ok (.iload_n 1, 1) := by decide +kernel
theorem dX7_at_5 : decode cX7_at 5 = .ok (.aload_n 0, 1) := by decide +kernel
theorem dX7_at_6 : decode cX7_at 6 = .ok (.getfield 15, 3) := by decide +kernel
theorem dX7_at_9 : decode cX7_at 9 = .ok (.if_icmp .ge 21, 3) := by decide +kernel
theorem dX7_at_12 : decode cX7_at 12 = .ok (.iload_n 1, 1) := by decide +kernel
theorem dX7_at_13 : decode cX7_at 13 = .ok (.aload_n 0, 1) := by decide +kernel
theorem dX7_at_14 : decode cX7_at 14 = .ok (.getfield 9, 3) := by decide +kernel
theorem dX7_at_17 : decode cX7_at 17 = .ok (.arraylength, 1) := by decide +kernel
theorem dX7_at_18 : decode cX7_at 18 = .ok (.if_icmp .ge 12, 3) := by decide +kernel
theorem dX7_at_21 : decode cX7_at 21 = .ok (.aload_n 0, 1) := by decide +kernel
theorem dX7_at_22 : decode cX7_at 22 = .ok (.getfield 9, 3) := by decide +kernel
theorem dX7_at_25 : decode cX7_at 25 = .ok (.iload_n 1, 1) := by decide +kernel
theorem dX7_at_26 : decode cX7_at 26 = .ok (.iaload, 1) := by decide +kernel
theorem dX7_at_27 : decode cX7_at 27 = .ok (.goto 4, 3) := by decide +kernel
theorem dX7_at_30 : decode cX7_at 30 = .ok (.iconst (-1), 1) := by decide +kernel
theorem dX7_at_31 : decode cX7_at 31 = .ok (.ireturn, 1) := by decide +kernel
theorem dX7_xorOfAll_0 : decode cX7_xorOfAll 0 = .ok (.iconst 0, 1) := by decide +kernel
theorem dX7_xorOfAll_1 : decode cX7_xorOfAll 1 = .ok (.istore_n 1, 1) := by decide +kernel
theorem dX7_xorOfAll_2 : decode cX7_xorOfAll 2 = .ok (.iconst 0, 1) := by decide +kernel
theorem dX7_xorOfAll_3 : decode cX7_xorOfAll 3 = .ok (.istore_n 2, 1) := by decide +kernel
theorem dX7_xorOfAll_4 : decode cX7_xorOfAll 4 = .ok (.iload_n 2, 1) := by decide +kernel
theorem dX7_xorOfAll_5 : decode cX7_xorOfAll 5 = .ok (.aload_n 0, 1) := by decide +kernel
theorem dX7_xorOfAll_6 : decode cX7_xorOfAll 6 = .ok (.getfield 15, 3) := by decide +kernel
theorem dX7_xorOfAll_9 : decode cX7_xorOfAll 9 = .ok (.if_icmp .ge 27, 3) := by decide +kernel
theorem dX7_xorOfAll_12 : decode cX7_xorOfAll 12 = .ok (.iload_n 2, 1) := by decide +kernel
theorem dX7_xorOfAll_13 : decode cX7_xorOfAll 13 = .ok (.aload_n 0, 1) := by decide +kernel
theorem dX7_xorOfAll_14 : decode cX7_xorOfAll 14 = .ok (.getfield 9, 3) := by decide +kernel
theorem dX7_xorOfAll_17 : decode cX7_xorOfAll 17 = .ok (.arraylength, 1) := by decide +kernel
theorem dX7_xorOfAll_18 : decode cX7_xorOfAll 18 = .ok (.if_icmp .ge 18, 3) := by decide +kernel
theorem dX7_xorOfAll_21 : decode cX7_xorOfAll 21 = .ok (.iload_n 1, 1) := by decide +kernel
theorem dX7_xorOfAll_22 : decode cX7_xorOfAll 22 = .ok (.aload_n 0, 1) := by decide +kernel
theorem dX7_xorOfAll_23 : decode cX7_xorOfAll 23 = .ok (.getfield 9, 3) := by decide +kernel
theorem dX7_xorOfAll_26 : decode cX7_xorOfAll 26 = .ok (.iload_n 2, 1) := by decide +kernel
theorem dX7_xorOfAll_27 : decode cX7_xorOfAll 27 = .ok (.iaload, 1) := by decide +kernel
theorem dX7_xorOfAll_28 : decode cX7_xorOfAll 28 = .ok (.ixor, 1) := by decide +kernel
theorem dX7_xorOfAll_29 : decode cX7_xorOfAll 29 = .ok (.istore_n 1, 1) := by decide +kernel
theorem dX7_xorOfAll_30 : decode cX7_xorOfAll 30 = .ok (.iinc 2 1, 3) := by decide +kernel
theorem dX7_xorOfAll_33 : decode cX7_xorOfAll 33 = .ok (.goto (-29), 3) := by decide +kernel
theorem dX7_xorOfAll_36 : decode cX7_xorOfAll 36 = .ok (.iload_n 1, 1) := by decide +kernel
theorem dX7_xorOfAll_37 : decode cX7_xorOfAll 37 = .ok (.ireturn, 1) := by decide +kernel
theorem dX7_number_0 : decode cX7_number 0 = .ok (.lconst 0, 1) := by decide +kernel
theorem dX7_number_1 : decode cX7_number 1 = .ok (.lstore_n 3, 1) := by decide +kernel
theorem dX7_number_2 : decode cX7_number 2 = .ok (.iload_n 1, 1) := by decide +kernel
theorem dX7_number_3 : decode cX7_number 3 = .ok (.istore 5, 2) := by decide +kernel
theorem dX7_number_5 : decode cX7_number 5 = .ok (.iload 5, 2) := by decide +kernel
theorem dX7_number_7 : decode cX7_number 7 = .ok (.iload_n 2, 1) := by decide +kernel
theorem dX7_number_8 : decode cX7_number 8 = .ok (.if_icmp .ge 43, 3) := by decide +kernel
theorem dX7_number_11 : decode cX7_number 11 = .ok (.iload 5, 2) := by decide +kernel
theorem dX7_number_13 : decode cX7_number 13 = .ok (.aload_n 0, 1) := by decide +kernel
theorem dX7_number_14 : decode cX7_number 14 = .ok (.getfield 15, 3) := by decide +kernel
theorem dX7_number_17 : decode cX7_number 17 = .ok (.if_icmp .ge 34, 3) := by decide +kernel
theorem dX7_number_20 : decode cX7_number 20 = .ok (.iload 5, 2) := by decide +kernel
theorem dX7_number_22 : decode cX7_number 22 = .ok (.aload_n 0, 1) := by decide +kernel
theorem dX7_number_23 : decode cX7_number 23 = .ok (.getfield 9, 3) := by decide +kernel
theorem dX7_number_26 : decode cX7_number 26 = .ok (.arraylength, 1) := by decide +kernel
theorem dX7_number_27 : decode cX7_number 27 = .ok (.if_icmp .ge 24, 3) := by decide +kernel
theorem dX7_number_30 : decode cX7_number 30 = .ok (.lload_n 3, 1) := by decide +kernel
theorem dX7_number_31 : decode cX7_number 31 = .ok (.ldc2_w 19, 3) := by decide +kernel
theorem dX7_number_34 : decode cX7_number 34 = .ok (.lmul, 1) := by decide +kernel
theorem dX7_number_35 : decode cX7_number 35 = .ok (.aload_n 0, 1) := by decide +kernel
theorem dX7_number_36 : decode cX7_number 36 = .ok (.getfield 9, 3) := by decide +kernel
theorem dX7_number_39 : decode cX7_number 39 = .ok (.iload 5, 2) := by decide +kernel
theorem dX7_number_41 : decode cX7_number 41 = .ok (.iaload, 1) := by decide +kernel
theorem dX7_number_42 : decode cX7_number 42 = .ok (.i2l, 1) := by decide +kernel
theorem dX7_number_43 : decode cX7_number 43 = .ok (.ladd, 1) := by decide +kernel
theorem dX7_number_44 : decode cX7_number 44 = .ok (.lstore_n 3, 1) := by decide +kernel
theorem dX7_number_45 : decode cX7_number 45 = .ok (.iinc 5 1, 3) := by decide +kernel
theorem dX7_number_48 : decode cX7_number 48 = .ok (.goto (-43), 3) := by decide +kernel
theorem dX7_number_51 : decode cX7_number 51 = .ok (.lload_n 3, 1) := by decide +kernel
theorem dX7_number_52 : decode cX7_number 52 = .ok (.lreturn, 1) := by decide +kernel
theorem dX8_init_0 : decode cX8_init 0 = .ok (.aload_n 0, 1) := by decide +kernel
theorem dX8_init_1 : decode cX8_init 1 = .ok (.invokespecial 3, 3) := by decide +kernel
theorem dX8_init_4 : decode cX8_init 4 = .ok (.aload_n 0, 1) := by decide +kernel
theorem dX8_init_5 : decode cX8_init 5 = .ok (.sipush 801, 3) := by decide +kernel
theorem dX8_init_8 : decode cX8_init 8 = .ok (.newarray .int, 2) := by decide +kernel
theorem dX8_init_10 : decode cX8_init 10 = .ok (.putfield 9, 3) := by decide +kernel
theorem dX8_init_13 : decode cX8_init 13 = .ok (.aload_n 0, 1) := by decide +kernel
theorem dX8_init_14 : decode cX8_init 14 = .ok (.sipush 801, 3) := by decide +kernel
theorem dX8_init_17 : decode cX8_init 17 = .ok (.newarray .int, 2) := by decide +kernel
theorem dX8_init_19 : decode cX8_init 19 = .ok (.putfield 15, 3) := by decide +kernel
theorem dX8_init_22 : decode cX8_init 22 = .ok (.aload_n 0, 1) := by decide +kernel
theorem dX8_init_23 : decode cX8_init 23 = .ok (.sipush 801, 3) := by decide +kernel
theorem dX8_init_26 : decode cX8_init 26 = .ok (.newarray .int, 2) := by decide +kernel
theorem dX8_init_28 : decode cX8_init 28 = .ok (.putfield 18, 3) := by decide +kernel
theorem dX8_init_31 : decode cX8_init 31 = .ok (.aload_n 0, 1) := by decide +kernel
theorem dX8_init_32 : decode cX8_init 32 = .ok (.sipush 801, 3) := by decide +kernel
theorem dX8_init_35 : decode cX8_init 35 = .ok (.newarray .int, 2) := by decide +kernel
theorem dX8_init_37 : decode cX8_init 37 = .ok (.putfield 21, 3) := by decide +kernel
theorem dX8_init_40 : decode cX8_init 40 = .ok (.aload_n 0, 1) := by decide +kernel
theorem dX8_init_41 : decode cX8_init 41 = .ok (.aload_n 1, 1) := by decide +kernel
theorem dX8_init_42 : decode cX8_init 42 = .ok (.putfield 24, 3) := by decide +kernel
theorem dX8_init_45 : decode cX8_init 45 = .ok (.return_, 1) := by decide +kernel
theorem dX8_cut_0 : decode cX8_cut 0 = .ok (.aload_n 0, 1) := by decide +kernel
theorem dX8_cut_1 : decode cX8_cut 1 = .ok (.iconst 0, 1) := by decide +kernel
theorem dX8_cut_2 : decode cX8_cut 2 = .ok (.putfield 28, 3) := by decide +kernel
theorem dX8_cut_5 : decode cX8_cut 5 = .ok (.aload_n 0, 1) := by decide +kernel
theorem dX8_cut_6 : decode cX8_cut 6 = .ok (.iconst 0, 1) := by decide +kernel
theorem dX8_cut_7 : decode cX8_cut 7 = .ok (.putfield 32, 3) := by decide +kernel
theorem dX8_cut_10 : decode cX8_cut 10 = .ok (.iconst 3, 1) := by decide +kernel
theorem dX8_cut_11 : decode cX8_cut 11 = .ok (.istore_n 1, 1) := by decide +kernel
theorem dX8_cut_12 : decode cX8_cut 12 = .ok (.iconst 0, 1) := by decide +kernel
theorem dX8_cut_13 : decode cX8_cut 13 = .ok (.istore_n 2, 1) := by decide +kernel
theorem dX8_cut_14 : decode cX8_cut 14 = .ok (.iload_n 2, 1) := by decide +kernel
theorem dX8_cut_15 : decode cX8_cut 15 = .ok (.aload_n 0, 1) := by decide +kernel
theorem dX8_cut_16 : decode cX8_cut 16 = .ok (.getfield 9, 3) := by decide +kernel
theorem dX8_cut_19 : decode cX8_cut 19 = .ok (.arraylength, 1) := by decide +kernel
theorem dX8_cut_20 : decode cX8_cut 20 = .ok (.if_icmp .ge 87, 3) := by decide +kernel
theorem dX8_cut_23 : decode cX8_cut 23 = .ok (.iload_n 1, 1) := by decide +kernel
theorem dX8_cut_24 : decode cX8_cut 24 = .ok (.ifCond .eq 83, 3) := by decide +kernel
theorem dX8_cut_27 : decode cX8_cut 27 = .ok (.aload_n 0, 1) := by decide +kernel
theorem dX8_cut_28 : decode cX8_cut 28 = .ok (.getfield 32, 3) := by decide +kernel
theorem dX8_cut_31 : decode cX8_cut 31 = .ok (.istore_n 3, 1) := by decide +kernel
theorem dX8_cut_32 : decode cX8_cut 32 = .ok (.aload_n 0, 1) := by decide +kernel
theorem dX8_cut_33 : decode cX8_cut 33 = .ok (.invokevirtual 35, 3) := by decide +kernel
theorem dX8_cut_36 : decode cX8_cut 36 = .ok (.aload_n 0, 1) := by decide +kernel
theorem dX8_cut_37 : decode cX8_cut 37 = .ok (.getfield 32, 3) := by decide +kernel
theorem dX8_cut_40 : decode cX8_cut 40 = .ok (.iload_n 3, 1) := by decide +kernel
theorem dX8_cut_41 : decode cX8_cut 41 = .ok (.if_icmp .ne 17, 3) := by decide +kernel
theorem dX8_cut_44 : decode cX8_cut 44 = .ok (.iload_n 1, 1) := by decide +kernel
theorem dX8_cut_45 : decode cX8_cut 45 = .ok (.iconst 1, 1) := by decide +kernel
theorem dX8_cut_46 : decode cX8_cut 46 = .ok (.if_icmp .eq 8, 3) := by decide +kernel
theorem dX8_cut_49 : decode cX8_cut 49 = .ok (.iload_n 1, 1) := by decide +kernel
theorem dX8_cut_50 : decode cX8_cut 50 = .ok (.iconst 2, 1) := by decide +kernel
theorem dX8_cut_51 : decode cX8_cut 51 = .ok (.if_icmp .ne 7, 3) := by decide +kernel
theorem dX8_cut_54 : decode cX8_cut 54 = .ok (.iconst 1, 1) := by decide +kernel
theorem dX8_cut_55 : decode cX8_cut 55 = .ok (.goto 4, 3) := by decide +kernel
theorem dX8_cut_58 : decode cX8_cut 58 = .ok (.iconst 0, 1) := by decide +kernel
theorem dX8_cut_59 : decode cX8_cut 59 = .ok (.istore 4, 2) := by decide +kernel
theorem dX8_cut_61 : decode cX8_cut 61 = .ok (.aload_n 0, 1) := by decide +kernel
theorem dX8_cut_62 : decode cX8_cut 62 = .ok (.invokevirtual 38, 3) := by decide +kernel
theorem dX8_cut_65 : decode cX8_cut 65 = .ok (.istore_n 1, 1) := by decide +kernel
theorem dX8_cut_66 : decode cX8_cut 66 = .ok (.iload 4, 2) := by decide +kernel
theorem dX8_cut_68 : decode cX8_cut 68 = .ok (.ifCond .eq 23, 3) := by decide +kernel
theorem dX8_cut_71 : decode cX8_cut 71 = .ok (.iload_n 1, 1) := by decide +kernel
theorem dX8_cut_72 : decode cX8_cut 72 = .ok (.iconst 1, 1) := by decide +kernel
theorem dX8_cut_73 : decode cX8_cut 73 = .ok (.if_icmp .eq 8, 3) := by decide +kernel
theorem dX8_cut_76 : decode cX8_cut 76 = .ok (.iload_n 1, 1) := by decide +kernel
theorem dX8_cut_77 : decode cX8_cut 77 = .ok (.iconst 2, 1) := by decide +kernel
theorem dX8_cut_78 : decode cX8_cut 78 = .ok (.if_icmp .ne 13, 3) := by decide +kernel
theorem dX8_cut_81 : decode cX8_cut 81 = .ok (.aload_n 0, 1) := by decide +kernel
theorem dX8_cut_82 : decode cX8_cut 82 = .ok (.getfield 9, 3) := by decide +kernel
theorem dX8_cut_85 : decode cX8_cut 85 = .ok (.aload_n 0, 1) := by decide +kernel
theorem dX8_cut_86 : decode cX8_cut 86 = .ok (.getfield 28, 3) := by decide +kernel
theorem dX8_cut_89 : decode cX8_cut 89 = .ok (.iconst 4, 1) := by decide +kernel
theorem dX8_cut_90 : decode cX8_cut 90 = .ok (.iastore, 1) := by decide +kernel
theorem dX8_cut_91 : decode cX8_cut 91 = .ok (.aload_n 0, 1) := by decide +kernel
theorem dX8_cut_92 : decode cX8_cut 92 = .ok (.dup, 1) := by decide +kernel
theorem dX8_cut_93 : decode cX8_cut 93 = .ok (.getfield 28, 3) := by decide +kernel
theorem dX8_cut_96 : decode cX8_cut 96 = .ok (.iconst 1, 1) := by decide +kernel
theorem dX8_cut_97 : decode cX8_cut 97 = .ok (.iadd, 1) := by decide +kernel
theorem dX8_cut_98 : decode cX8_cut 98 = .ok (.putfield 28, 3) := by decide +kernel
theorem dX8_cut_101 : decode cX8_cut 101 = .ok (.iinc 2 1, 3) := by decide +kernel
theorem dX8_cut_104 : decode cX8_cut 104 = .ok (.goto (-90), 3) := by decide +kernel
theorem dX8_cut_107 : decode cX8_cut 107 = .ok (.return_, 1) := by decide +kernel
theorem dX8_skipBlanks_0 : decode cX8_skipBlanks 0 = .ok (.iconst 0, 1) := by decide +kernel
theorem dX8_skipBlanks_1 : decode cX8_skipBlanks 1 = .ok (.istore_n 1, 1) := by decide +kernel
theorem dX8_skipBlanks_2 : decode cX8_skipBlanks 2 = .ok (.iload_n 1, 1) := by decide +kernel
theorem dX8_skipBlanks_3 : decode cX8_skipBlanks 3 = .ok (.sipush 800, 3) := by decide +kernel
theorem dX8_skipBlanks_6 : decode cX8_skipBlanks 6 = .ok (.if_icmp .ge 36, 3) := by decide +kernel
theorem dX8_skipBlanks_9 : decode cX8_skipBlanks 9 = .ok (.aload_n 0, 1) := by decide +kernel
theorem dX8_skipBlanks_10 : decode cX8_skipBlanks 10 = .ok (.getfield 24, 3) := by decide +kernel
theorem dX8_skipBlanks_13 : decode cX8_skipBlanks 13 = .ok (.aload_n 0, 1) := by decide +kernel
theorem dX8_skipBlanks_14 : decode cX8_skipBlanks 14 = .ok (.getfield 32, 3) := by decide +kernel
theorem dX8_skipBlanks_17 : decode cX8_skipBlanks 17 = .ok (.invokevirtual 42, 3) := by decide +kernel
theorem dX8_skipBlanks_20 : decode cX8_skipBlanks 20 = .ok (.invokestatic 48, 3) := by decide +kernel
theorem dX8_skipBlanks_23 : decode cX8_skipBlanks 23 = .ok (.ifCond .eq 19, 3) := by decide +kernel
theorem dX8_skipBlanks_26 : decode cX8_skipBlanks 26 = .ok (.aload_n 0, 1) := by decide +kernel
theorem dX8_skipBlanks_27 : decode cX8_skipBlanks 27 = .ok (.dup, 1) := by decide +kernel
theorem dX8_skipBlanks_28 : decode cX8_skipBlanks 28 = .ok (.getfield 32, 3) := by decide +kernel
theorem dX8_skipBlanks_31 : decode cX8_skipBlanks 31 = .ok (.iconst 1, 1) := by decide +kernel
theorem dX8_skipBlanks_32 : decode cX8_skipBlanks 32 = .ok (.iadd, 1) := by decide +kernel
theorem dX8_skipBlanks_33 : decode cX8_skipBlanks 33 = .ok (.putfield 32, 3) := by decide +kernel
theorem dX8_skipBlanks_36 : decode cX8_skipBlanks 36 = .ok (.iinc 1 1, 3) := by decide +kernel
theorem dX8_skipBlanks_39 : decode cX8_skipBlanks 39 = .ok (.goto (-37), 3) := by decide +kernel
theorem dX8_skipBlanks_42 : decode cX8_skipBlanks 42 = .ok (.return_, 1) := by decide +kernel
theorem dX8_cutOne_0 : decode cX8_cutOne 0 = .ok (.aload_n 0, 1) := by decide +kernel
theorem dX8_cutOne_1 : decode cX8_cutOne 1 = .ok (.getfield 28, 3) := by decide +kernel
theorem dX8_cutOne_4 : decode cX8_cutOne 4 = .ok (.aload_n 0, 1) := by decide +kernel
theorem dX8_cutOne_5 : decode cX8_cutOne 5 = .ok (.getfield 9, 3) := by decide +kernel
theorem dX8_cutOne_8 : decode cX8_cutOne 8 = .ok (.arraylength, 1) := by decide +kernel
theorem dX8_cutOne_9 : decode cX8_cutOne 9 = .ok (.if_icmp .lt 5, 3) := by decide +kernel
theorem dX8_cutOne_12 : decode cX8_cutOne 12 = .ok (.iconst 0, 1) := by decide +kernel
theorem dX8_cutOne_13 : decode cX8_cutOne 13 = .ok (.ireturn, 1) := by decide +kernel
theorem dX8_cutOne_14 : decode cX8_cutOne 14 = .ok (.aload_n 0, 1) := by decide +kernel
theorem dX8_cutOne_15 : decode cX8_cutOne 15 = .ok (.getfield 24, 3) := by decide +kernel
theorem dX8_cutOne_18 : decode cX8_cutOne 18 = .ok (.aload_n 0, 1) := by decide +kernel
theorem dX8_cutOne_19 : decode cX8_cutOne 19 = .ok (.getfield 32, 3) := by decide +kernel
theorem dX8_cutOne_22 : decode cX8_cutOne 22 = .ok (.invokevirtual 42, 3) := by decide +kernel
theorem dX8_cutOne_25 : decode cX8_cutOne 25 = .ok (.istore_n 1, 1) := by decide +kernel
theorem dX8_cutOne_26 : decode cX8_cutOne 26 = .ok (.aload_n 0, 1) := by decide +kernel
theorem dX8_cutOne_27 : decode cX8_cutOne 27 = .ok (.getfield 15, 3) := by decide +kernel
theorem dX8_cutOne_30 : decode cX8_cutOne 30 = .ok (.aload_n 0, 1) := by decide +kernel
theorem dX8_cutOne_31 : decode cX8_cutOne 31 = .ok (.getfield 28, 3) := by decide +kernel
theorem dX8_cutOne_34 : decode cX8_cutOne 34 = .ok (.aload_n 0, 1) := by decide +kernel
theorem dX8_cutOne_35 : decode cX8_cutOne 35 = .ok (.getfield 32, 3) := by decide +kernel
theorem dX8_cutOne_38 : decode cX8_cutOne 38 = .ok (.iastore, 1) := by decide +kernel
theorem dX8_cutOne_39 : decode cX8_cutOne 39 = .ok (.aload_n 0, 1) := by decide +kernel
theorem dX8_cutOne_40 : decode cX8_cutOne 40 = .ok (.getfield 9, 3) := by decide +kernel
theorem dX8_cutOne_43 : decode cX8_cutOne 43 = .ok (.aload_n 0, 1) := by decide +kernel
theorem dX8_cutOne_44 : decode cX8_cutOne 44 = .ok (.getfield 28, 3) := by decide +kernel
theorem dX8_cutOne_47 : decode cX8_cutOne 47 = .ok (.iload_n 1, 1) := by decide +kernel
theorem dX8_cutOne_48 : decode cX8_cutOne 48 = .ok (.iconst (-1), 1) := by decide +kernel
theorem dX8_cutOne_49 : decode cX8_cutOne 49 = .ok (.if_icmp .ne 7, 3) := by decide +kernel
theorem dX8_cutOne_52 : decode cX8_cutOne 52 = .ok (.iconst 0, 1) := by decide +kernel
theorem dX8_cutOne_53 : decode cX8_cutOne 53 = .ok (.goto 26, 3) := by decide +kernel
theorem dX8_cutOne_56 : decode cX8_cutOne 56 = .ok (.iload_n 1, 1) := by decide +kernel
theorem dX8_cutOne_57 : decode cX8_cutOne 57 = .ok (.invokestatic 52, 3) := by decide +kernel
theorem dX8_cutOne_60 : decode cX8_cutOne 60 = .ok (.ifCond .eq 7, 3) := by decide +kernel
theorem dX8_cutOne_63 : decode cX8_cutOne 63 = .ok (.iconst 1, 1) := by decide +kernel
theorem dX8_cutOne_64 : decode cX8_cutOne 64 = .ok (.goto 15, 3) := by decide +kernel
theorem dX8_cutOne_67 : decode cX8_cutOne 67 = .ok (.iload_n 1, 1) := by decide +kernel
theorem dX8_cutOne_68 : decode cX8_cutOne 68 = .ok (.invokestatic 55, 3) := by decide +kernel
theorem dX8_cutOne_71 : decode cX8_cutOne 71 = .ok (.ifCond .eq 7, 3) := by decide +kernel
theorem dX8_cutOne_74 : decode cX8_cutOne 74 = .ok (.iconst 2, 1) := by decide +kernel
theorem dX8_cutOne_75 : decode cX8_cutOne 75 = .ok (.goto 4, 3) := by decide +kernel
theorem dX8_cutOne_78 : decode cX8_cutOne 78 = .ok (.iconst 3, 1) := by decide +kernel
theorem dX8_cutOne_79 : decode cX8_cutOne 79 = .ok (.iastore, 1) := by decide +kernel
theorem dX8_cutOne_80 : decode cX8_cutOne 80 = .ok (.aload_n 0, 1) := by decide +kernel
theorem dX8_cutOne_81 : decode cX8_cutOne 81 = .ok (.getfield 21, 3) := by decide +kernel
theorem dX8_cutOne_84 : decode cX8_cutOne 84 = .ok (.aload_n 0, 1) := by decide +kernel
theorem dX8_cutOne_85 : decode cX8_cutOne 85 = .ok (.getfield 28, 3) := by decide +kernel
theorem dX8_cutOne_88 : decode cX8_cutOne 88 = .ok (.iload_n 1, 1) := by decide +kernel
theorem dX8_cutOne_89 : decode cX8_cutOne 89 = .ok (.iastore, 1) := by decide +kernel
theorem dX8_cutOne_90 : decode cX8_cutOne 90 = .ok (.aload_n 0, 1) := by decide +kernel
theorem dX8_cutOne_91 : decode cX8_cutOne 91 = .ok (.getfield 9, 3) := by decide +kernel
theorem dX8_cutOne_94 : decode cX8_cutOne 94 = .ok (.aload_n 0, 1) := by decide +kernel
theorem dX8_cutOne_95 : decode cX8_cutOne 95 = .ok (.getfield 28, 3) := by decide +kernel
theorem dX8_cutOne_98 : decode cX8_cutOne 98 = .ok (.iaload, 1) := by decide +kernel
theorem dX8_cutOne_99 : decode cX8_cutOne 99 = .ok (.iconst 1, 1) := by decide +kernel
theorem dX8_cutOne_100 : decode cX8_cutOne 100 = .ok (.if_icmp .ne 19, 3) := by decide +kernel
theorem dX8_cutOne_103 : decode cX8_cutOne 103 = .ok (.aload_n 0, 1) := by decide +kernel
theorem dX8_cutOne_104 : decode cX8_cutOne 104 = .ok (.getfield 21, 3) := by decide +kernel
theorem dX8_cutOne_107 : decode cX8_cutOne 107 = .ok (.aload_n 0, 1) := by decide +kernel
theorem dX8_cutOne_108 : decode cX8_cutOne 108 = .ok (.getfield 28, 3) := by decide +kernel
theorem dX8_cutOne_111 : decode cX8_cutOne 111 = .ok (.aload_n 0, 1) := by decide +kernel
theorem dX8_cutOne_112 : decode cX8_cutOne 112 = .ok (.invokevirtual 58, 3) := by decide +kernel
theorem dX8_cutOne_115 : decode cX8_cutOne 115 = .ok (.iastore, 1) := by decide +kernel
theorem dX8_cutOne_116 : decode cX8_cutOne 116 = .ok (.goto 55, 3) := by decide +kernel
theorem dX8_cutOne_119 : decode cX8_cutOne 119 = .ok (.aload_n 0, 1) := by decide +kernel
theorem dX8_cutOne_120 : decode cX8_cutOne 120 = .ok (.getfield 9, 3) := by decide +kernel
theorem dX8_cutOne_123 : decode cX8_cutOne 123 = .ok (.aload_n 0, 1) := by decide +kernel
theorem dX8_cutOne_124 : decode cX8_cutOne 124 = .ok (.getfield 28, 3) := by decide +kernel
theorem dX8_cutOne_127 : decode cX8_cutOne 127 = .ok (.iaload, 1) := by decide +kernel
theorem dX8_cutOne_128 : decode cX8_cutOne 128 = .ok (.iconst 2, 1) := by decide +kernel
theorem dX8_cutOne_129 : decode cX8_cutOne 129 = .ok (.if_icmp .ne 19, 3) := by decide +kernel
theorem dX8_cutOne_132 : decode cX8_cutOne 132 = .ok (.aload_n 0, 1) := by decide +kernel
theorem dX8_cutOne_133 : decode cX8_cutOne 133 = .ok (.getfield 21, 3) := by decide +kernel
theorem dX8_cutOne_136 : decode cX8_cutOne 136 = .ok (.aload_n 0, 1) := by decide +kernel
theorem dX8_cutOne_137 : decode cX8_cutOne 137 = .ok (.getfield 28, 3) := by decide +kernel
theorem dX8_cutOne_140 : decode cX8_cutOne 140 = .ok (.aload_n 0, 1) := by decide +kernel
theorem dX8_cutOne_141 : decode cX8_cutOne 141 = .ok (.invokevirtual 61, 3) := by decide +kernel
theorem dX8_cutOne_144 : decode cX8_cutOne 144 = .ok (.iastore, 1) := by decide +kernel
theorem dX8_cutOne_145 : decode cX8_cutOne 145 = .ok (.goto 26, 3) := by decide +kernel
theorem dX8_cutOne_148 : decode cX8_cutOne 148 = .ok (.aload_n 0, 1) := by decide +kernel
theorem dX8_cutOne_149 : decode cX8_cutOne 149 = .ok (.getfield 9, 3) := by decide +kernel
theorem dX8_cutOne_152 : decode cX8_cutOne 152 = .ok (.aload_n 0, 1) := by decide +kernel
theorem dX8_cutOne_153 : decode cX8_cutOne 153 = .ok (.getfield 28, 3) := by decide +kernel
theorem dX8_cutOne_156 : decode cX8_cutOne 156 = .ok (.iaload, 1) := by decide +kernel
theorem dX8_cutOne_157 : decode cX8_cutOne 157 = .ok (.iconst 3, 1) := by decide +kernel
theorem dX8_cutOne_158 : decode cX8_cutOne 158 = .ok (.if_icmp .ne 13, 3) := by decide +kernel
theorem dX8_cutOne_161 : decode cX8_cutOne 161 = .ok (.aload_n 0, 1) := by decide +kernel
theorem dX8_cutOne_162 : decode cX8_cutOne 162 = .ok (.dup, 1) := by decide +kernel
theorem dX8_cutOne_163 : decode cX8_cutOne 163 = .ok (.getfield 32, 3) := by decide +kernel
theorem dX8_cutOne_166 : decode cX8_cutOne 166 = .ok (.iconst 1, 1) := by decide +kernel
theorem dX8_cutOne_167 : decode cX8_cutOne 167 = .ok (.iadd, 1) := by decide +kernel
theorem dX8_cutOne_168 : decode cX8_cutOne 168 = .ok (.putfield 32, 3) := by decide +kernel
theorem dX8_cutOne_171 : decode cX8_cutOne 171 = .ok (.aload_n 0, 1) := by decide +kernel
theorem dX8_cutOne_172 : decode cX8_cutOne 172 = .ok (.getfield 18, 3) := by decide +kernel
theorem dX8_cutOne_175 : decode cX8_cutOne 175 = .ok (.aload_n 0, 1) := by decide +kernel
theorem dX8_cutOne_176 : decode cX8_cutOne 176 = .ok (.getfield 28, 3) := by decide +kernel
theorem dX8_cutOne_179 : decode cX8_cutOne 179 = .ok (.aload_n 0, 1) := by decide +kernel
theorem dX8_cutOne_180 : decode cX8_cutOne 180 = .ok (.getfield 32, 3) := by decide +kernel
theorem dX8_cutOne_183 : decode cX8_cutOne 183 = .ok (.aload_n 0, 1) := by decide +kernel
theorem dX8_cutOne_184 : decode cX8_cutOne 184 = .ok (.getfield 15, 3) := by decide +kernel
theorem dX8_cutOne_187 : decode cX8_cutOne 187 = .ok (.aload_n 0, 1) := by decide +kernel
theorem dX8_cutOne_188 : decode cX8_cutOne 188 = .ok (.getfield 28, 3) := by decide +kernel
theorem dX8_cutOne_191 : decode cX8_cutOne 191 = .ok (.iaload, 1) := by decide +kernel
theorem dX8_cutOne_192 : decode cX8_cutOne 192 = .ok (.isub, 1) := by decide +kernel
theorem dX8_cutOne_193 : decode cX8_cutOne 193 = .ok (.iastore, 1) := by decide +kernel
theorem dX8_cutOne_194 : decode cX8_cutOne 194 = .ok (.aload_n 0, 1) := by decide +kernel
theorem dX8_cutOne_195 : decode cX8_cutOne 195 = .ok (.getfield 9, 3) := by decide +kernel
theorem dX8_cutOne_198 : decode cX8_cutOne 198 = .ok (.aload_n 0, 1) := by decide +kernel
theorem dX8_cutOne_199 : decode cX8_cutOne 199 = .ok (.getfield 28, 3) := by decide +kernel
theorem dX8_cutOne_202 : decode cX8_cutOne 202 = .ok (.iaload, 1) := by decide +kernel
theorem dX8_cutOne_203 : decode cX8_cutOne 203 = .ok (.ireturn, 1) := by decide +kernel
theorem dX8_word_0 : decode cX8_word 0 = .ok (.iconst 0, 1) := by decide +kernel
theorem dX8_word_1 : decode cX8_word 1 = .ok (.istore_n 1, 1) := by decide +kernel
theorem dX8_word_2 : decode cX8_word 2 = .ok (.iconst 0, 1) := by decide +kernel
theorem dX8_word_3 : decode cX8_word 3 = .ok (.istore_n 2, 1) := by decide +kernel
theorem dX8_word_4 : decode cX8_word 4 = .ok (.iload_n 2, 1) := by decide +kernel
theorem dX8_word_5 : decode cX8_word 5 = .ok (.sipush 800, 3) := by decide +kernel
theorem dX8_word_8 : decode cX8_word 8 = .ok (.if_icmp .ge 67, 3) := by decide +kernel
theorem dX8_word_11 : decode cX8_word 11 = .ok (.aload_n 0, 1) := by decide +kernel
theorem dX8_word_12 : decode cX8_word 12 = .ok (.getfield 24, 3) := by decide +kernel
theorem dX8_word_15 : decode cX8_word 15 = .ok (.aload_n 0, 1) := by decide +kernel
theorem dX8_word_16 : decode cX8_word 16 = .ok (.getfield 32, 3) := by decide +kernel
theorem dX8_word_19 : decode cX8_word 19 = .ok (.invokevirtual 42, 3) := by decide +kernel
theorem dX8_word_22 : decode cX8_word 22 = .ok (.invokestatic 52, 3) := by decide +kernel
theorem dX8_word_25 : decode cX8_word 25 = .ok (.ifCond .eq 50, 3) := by decide +kernel
theorem dX8_word_28 : decode cX8_word 28 = .ok (.iload_n 2, 1) := by decide +kernel
theorem dX8_word_29 : decode cX8_word 29 = .ok (.bipush 6, 2) := by decide +kernel
theorem dX8_word_31 : decode cX8_word 31 = .ok (.if_icmp .ge 28, 3) := by decide +kernel
theorem dX8_word_34 : decode cX8_word 34 = .ok (.iload_n 1, 1) := by decide +kernel
theorem dX8_word_35 : decode cX8_word 35 = .ok (.aload_n 0, 1) := by decide +kernel
theorem dX8_word_36 : decode cX8_word 36 = .ok (.getfield 24, 3) := by decide +kernel
theorem dX8_word_39 : decode cX8_word 39 = .ok (.aload_n 0, 1) := by decide +kernel
theorem dX8_word_40 : decode cX8_word 40 = .ok (.getfield 32, 3) := by decide +kernel
theorem dX8_word_43 : decode cX8_word 43 = .ok (.invokevirtual 42, 3) := by decide +kernel
theorem dX8_word_46 : decode cX8_word 46 = .ok (.bipush 97, 2) := by decide +kernel
theorem dX8_word_48 : decode cX8_word 48 = .ok (.isub, 1) := by decide +kernel
theorem dX8_word_49 : decode cX8_word 49 = .ok (.iconst 1, 1) := by decide +kernel
theorem dX8_word_50 : decode cX8_word 50 = .ok (.iadd, 1) := by decide +kernel
theorem dX8_word_51 : decode cX8_word 51 = .ok (.iconst 5, 1) := by decide +kernel
theorem dX8_word_52 : decode cX8_word 52 = .ok (.iconst 5, 1) := by decide +kernel
theorem dX8_word_53 : decode cX8_word 53 = .ok (.iload_n 2, 1) := by decide +kernel
theorem dX8_word_54 : decode cX8_word 54 = .ok (.isub, 1) := by decide +kernel
theorem dX8_word_55 : decode cX8_word 55 = .ok (.imul, 1) := by decide +kernel
theorem dX8_word_56 : decode cX8_word 56 = .ok (.ishl, 1) := by decide +kernel
theorem dX8_word_57 : decode cX8_word 57 = .ok (.ior, 1) := by decide +kernel
theorem dX8_word_58 : decode cX8_word 58 = .ok (.istore_n 1, 1) := by decide +kernel
theorem dX8_word_59 : decode cX8_word 59 = .ok (.aload_n 0, 1) := by decide +kernel
theorem dX8_word_60 : decode cX8_word 60 = .ok (.dup, 1) := by decide +kernel
theorem dX8_word_61 : decode cX8_word 61 = .ok (.getfield 32, 3) := by decide +kernel
theorem dX8_word_64 : decode cX8_word 64 = .ok (.iconst 1, 1) := by decide +kernel
theorem dX8_word_65 : decode cX8_word 65 = .ok (.iadd, 1) := by decide +kernel
theorem dX8_word_66 : decode cX8_word 66 = .ok (.putfield 32, 3) := by decide +kernel
theorem dX8_word_69 : decode cX8_word 69 = .ok (.iinc 2 1, 3) := by decide +kernel
theorem dX8_word_72 : decode cX8_word 72 = .ok (.goto (-68), 3) := by decide +kernel
theorem dX8_word_75 : decode cX8_word 75 = .ok (.iload_n 1, 1) := by decide +kernel
theorem dX8_word_76 : decode cX8_word 76 = .ok (.ireturn, 1) := by decide +kernel
theorem dX8_number_0 : decode cX8_number 0 = .ok (.iconst 0, 1) := by decide +kernel
theorem dX8_number_1 : decode cX8_number 1 = .ok (.istore_n 1, 1) := by decide +kernel
theorem dX8_number_2 : decode cX8_number 2 = .ok (.iconst 0, 1) := by decide +kernel
theorem dX8_number_3 : decode cX8_number 3 = .ok (.istore_n 2, 1) := by decide +kernel
theorem dX8_number_4 : decode cX8_number 4 = .ok (.iload_n 2, 1) := by decide +kernel
theorem dX8_number_5 : decode cX8_number 5 = .ok (.sipush 800, 3) := by decide +kernel
theorem dX8_number_8 : decode cX8_number 8 = .ok (.if_icmp .ge 61, 3) := by decide +kernel
theorem dX8_number_11 : decode cX8_number 11 = .ok (.aload_n 0, 1) := by decide +kernel
theorem dX8_number_12 : decode cX8_number 12 = .ok (.getfield 24, 3) := by decide +kernel
theorem dX8_number_15 : decode cX8_number 15 = .ok (.aload_n 0, 1) := by decide +kernel
theorem dX8_number_16 : decode cX8_number 16 = .ok (.getfield 32, 3) := by decide +kernel
theorem dX8_number_19 : decode cX8_number 19 = .ok (.invokevirtual 42, 3) := by decide +kernel
theorem dX8_number_22 : decode cX8_number 22 = .ok (.invokestatic 55, 3) := by decide +kernel
theorem dX8_number_25 : decode cX8_number 25 = .ok (.ifCond .eq 44, 3) := by decide +kernel
theorem dX8_number_28 : decode cX8_number 28 = .ok (.iload_n 2, 1) := by decide +kernel
theorem dX8_number_29 : decode cX8_number 29 = .ok (.iconst 4, 1) := by decide +kernel
theorem dX8_number_30 : decode cX8_number 30 = .ok (.if_icmp .ge 23, 3) := by decide +kernel
theorem dX8_number_33 : decode cX8_number 33 = .ok (.iload_n 1, 1) := by decide +kernel
theorem dX8_number_34 : decode cX8_number 34 = .ok (.bipush 10, 2) := by decide +kernel
theorem dX8_number_36 : decode cX8_number 36 = .ok (.imul, 1) := by decide +kernel
theorem dX8_number_37 : decode cX8_number 37 = .ok (.aload_n 0, 1) := by decide +kernel
theorem dX8_number_38 : decode cX8_number 38 = .ok (.getfield 24, 3) := by decide +kernel
theorem dX8_number_41 : decode cX8_number 41 = .ok (.aload_n 0, 1) := by decide +kernel
theorem dX8_number_42 : decode cX8_number 42 = .ok (.getfield 32, 3) := by decide +kernel
theorem dX8_number_45 : decode cX8_number 45 = .ok (.invokevirtual 42, 3) := by decide +kernel
theorem dX8_number_48 : decode cX8_number 48 = .ok (.iadd, 1) := by decide +kernel
theorem dX8_number_49 : decode cX8_number 49 = .ok (.bipush 48, 2) := by decide +kernel
theorem dX8_number_51 : decode cX8_number 51 = .ok (.isub, 1) := by decide +kernel
theorem dX8_number_52 : decode cX8_number 52 = .ok (.istore_n 1, 1) := by decide +kernel
theorem dX8_number_53 : decode cX8_number 53 = .ok (.aload_n 0, 1) := by decide +kernel
theorem dX8_number_54 : decode cX8_number 54 = .ok (.dup, 1) := by decide +kernel
theorem dX8_number_55 : decode cX8_number 55 = .ok (.getfield 32, 3) := by decide +kernel
theorem dX8_number_58 : decode cX8_number 58 = .ok (.iconst 1, 1) := by decide +kernel
theorem dX8_number_59 : decode cX8_number 59 = .ok (.iadd, 1) := by decide +kernel
theorem dX8_number_60 : decode cX8_number 60 = .ok (.putfield 32, 3) := by decide +kernel
theorem dX8_number_63 : decode cX8_number 63 = .ok (.iinc 2 1, 3) := by decide +kernel
theorem dX8_number_66 : decode cX8_number 66 = .ok (.goto (-62), 3) := by decide +kernel
theorem dX8_number_69 : decode cX8_number 69 = .ok (.iload_n 1, 1) := by decide +kernel
theorem dX8_number_70 : decode cX8_number 70 = .ok (.ireturn, 1) := by decide +kernel
theorem dX8_isBlank_0 : decode cX8_isBlank 0 = .ok (.iload_n 0, 1) := by decide +kernel
theorem dX8_isBlank_1 : decode cX8_isBlank 1 = .ok (.bipush 10, 2) := by decide +kernel
theorem dX8_isBlank_3 : decode cX8_isBlank 3 = .ok (.if_icmp .eq 9, 3) := by decide +kernel
theorem dX8_isBlank_6 : decode cX8_isBlank 6 = .ok (.iload_n 0, 1) := by decide +kernel
theorem dX8_isBlank_7 : decode cX8_isBlank 7 = .ok (.bipush 32, 2) := by decide +kernel
theorem dX8_isBlank_9 : decode cX8_isBlank 9 = .ok (.if_icmp .ne 7, 3) := by decide +kernel
theorem dX8_isBlank_12 : decode cX8_isBlank 12 = .ok (.iconst 1, 1) := by decide +kernel
theorem dX8_isBlank_13 : decode cX8_isBlank 13 = .ok (.goto 4, 3) := by decide +kernel
theorem dX8_isBlank_16 : decode cX8_isBlank 16 = .ok (.iconst 0, 1) := by decide +kernel
theorem dX8_isBlank_17 : decode cX8_isBlank 17 = .ok (.ireturn, 1) := by decide +kernel
theorem dX8_isLetter_0 : decode cX8_isLetter 0 = .ok (.iload_n 0, 1) := by decide +kernel
theorem dX8_isLetter_1 : decode cX8_isLetter 1 = .ok (.bipush 97, 2) := by decide +kernel
theorem dX8_isLetter_3 : decode cX8_isLetter 3 = .ok (.if_icmp .lt 13, 3) := by decide +kernel
theorem dX8_isLetter_6 : decode cX8_isLetter 6 = .ok (.iload_n 0, 1) := by decide +kernel
theorem dX8_isLetter_7 : decode cX8_isLetter 7 = .ok (.bipush 122, 2) := by decide +kernel
theorem dX8_isLetter_9 : decode cX8_isLetter 9 = .ok (.if_icmp .gt 7, 3) := by decide +kernel
theorem dX8_isLetter_12 : decode cX8_isLetter 12 = .ok (.iconst 1, 1) := by decide +kernel
theorem dX8_isLetter_13 : decode cX8_isLetter 13 = .ok (.goto 4, 3) := by decide +kernel
theorem dX8_isLetter_16 : decode cX8_isLetter 16 = .ok (.iconst 0, 1) := by decide +kernel
theorem dX8_isLetter_17 : decode cX8_isLetter 17 = .ok (.ireturn, 1) := by decide +kernel
theorem dX8_isDigit_0 : decode cX8_isDigit 0 = .ok (.iload_n 0, 1) := by decide +kernel
theorem dX8_isDigit_1 : decode cX8_isDigit 1 = .ok (.bipush 48, 2) := by decide +kernel
theorem dX8_isDigit_3 : decode cX8_isDigit 3 = .ok (.if_icmp .lt 13, 3) := by decide +kernel
theorem dX8_isDigit_6 : decode cX8_isDigit 6 = .ok (.iload_n 0, 1) := by decide +kernel
theorem dX8_isDigit_7 : decode cX8_isDigit 7 = .ok (.bipush 57, 2) := by decide +kernel
theorem dX8_isDigit_9 : decode cX8_isDigit 9 = .ok (.if_icmp .gt 7, 3) := by decide +kernel
theorem dX8_isDigit_12 : decode cX8_isDigit 12 = .ok (.iconst 1, 1) := by decide +kernel
theorem dX8_isDigit_13 : decode cX8_isDigit 13 = .ok (.goto 4, 3) := by decide +kernel
theorem dX8_isDigit_16 : decode cX8_isDigit 16 = .ok (.iconst 0, 1) := by decide +kernel
theorem dX8_isDigit_17 : decode cX8_isDigit 17 = .ok (.ireturn, 1) := by decide +kernel
theorem dX9_init_0 : decode cX9_init 0 = .ok (.aload_n 0, 1) := by decide +kernel
theorem dX9_init_1 : decode cX9_init 1 = .ok (.invokespecial 3, 3) := by decide +kernel
theorem dX9_init_4 : decode cX9_init 4 = .ok (.aload_n 0, 1) := by decide +kernel
theorem dX9_init_5 : decode cX9_init 5 = .ok (.sipush 201, 3) := by decide +kernel
theorem dX9_init_8 : decode cX9_init 8 = .ok (.newarray .long, 2) := by decide +kernel
theorem dX9_init_10 : decode cX9_init 10 = .ok (.putfield 9, 3) := by decide +kernel
theorem dX9_init_13 : decode cX9_init 13 = .ok (.aload_n 0, 1) := by decide +kernel
theorem dX9_init_14 : decode cX9_init 14 = .ok (.bipush 45, 2) := by decide +kernel
theorem dX9_init_16 : decode cX9_init 16 = .ok (.newarray .int, 2) := by decide +kernel
theorem dX9_init_18 : decode cX9_init 18 = .ok (.putfield 15, 3) := by decide +kernel
theorem dX9_init_21 : decode cX9_init 21 = .ok (.aload_n 0, 1) := by decide +kernel
theorem dX9_init_22 : decode cX9_init 22 = .ok (.aload_n 1, 1) := by decide +kernel
theorem dX9_init_23 : decode cX9_init 23 = .ok (.putfield 19, 3) := by decide +kernel
theorem dX9_init_26 : decode cX9_init 26 = .ok (.aload_n 0, 1) := by decide +kernel
theorem dX9_init_27 : decode cX9_init 27 = .ok (.aload_n 2, 1) := by decide +kernel
theorem dX9_init_28 : decode cX9_init 28 = .ok (.putfield 23, 3) := by decide +kernel
theorem dX9_init_31 : decode cX9_init 31 = .ok (.return_, 1) := by decide +kernel
theorem dX9_firstPair_0 : decode cX9_firstPair 0 = .ok (.iconst 0, 1) := by decide +kernel
theorem dX9_firstPair_1 : decode cX9_firstPair 1 = .ok (.istore_n 3, 1) := by decide +kernel
theorem dX9_firstPair_2 : decode cX9_firstPair 2 = .ok (.iload_n 3, 1) := by decide +kernel
theorem dX9_firstPair_3 : decode cX9_firstPair 3 = .ok (.aload_n 0, 1) := by decide +kernel
theorem dX9_firstPair_4 : decode cX9_firstPair 4 = .ok (.getfield 19, 3) := by decide +kernel
theorem dX9_firstPair_7 : decode cX9_firstPair 7 = .ok (.getfield 27, 3) := by decide +kernel
theorem dX9_firstPair_10 : decode cX9_firstPair 10 = .ok (.if_icmp .ge 23, 3) := by decide +kernel
theorem dX9_firstPair_13 : decode cX9_firstPair 13 = .ok (.aload_n 0, 1) := by decide +kernel
theorem dX9_firstPair_14 : decode cX9_firstPair 14 = .ok (.getfield 23, 3) := by decide +kernel
theorem dX9_firstPair_17 : decode cX9_firstPair 17 = .ok (.lload_n 1, 1) := by decide +kernel
theorem dX9_firstPair_18 : decode cX9_firstPair 18 = .ok (.iload_n 3, 1) := by decide +kernel
theorem dX9_firstPair_19 : decode cX9_firstPair 19 = .ok (.invokevirtual 33, 3) := by decide +kernel
theorem dX9_firstPair_22 : decode cX9_firstPair 22 = .ok (.ifCond .eq 5, 3) := by decide +kernel
theorem dX9_firstPair_25 : decode cX9_firstPair 25 = .ok (.iload_n 3, 1) := by decide +kernel
theorem dX9_firstPair_26 : decode cX9_firstPair 26 = .ok (.ireturn, 1) := by decide +kernel
theorem dX9_firstPair_27 : decode cX9_firstPair 27 = .ok (.iinc 3 1, 3) := by decide +kernel
theorem dX9_firstPair_30 : decode cX9_firstPair 30 = .ok (.goto (-28), 3) := by decide +kernel
theorem dX9_firstPair_33 : decode cX9_firstPair 33 = .ok (.iconst (-1), 1) := by decide +kernel
theorem dX9_firstPair_34 : decode cX9_firstPair 34 = .ok (.ireturn, 1) := by decide +kernel
theorem dX9_drawnPair_0 : decode cX9_drawnPair 0 = .ok (.iconst 0, 1) := by decide +kernel
theorem dX9_drawnPair_1 : decode cX9_drawnPair 1 = .ok (.istore 4, 2) := by decide +kernel
theorem dX9_drawnPair_3 : decode cX9_drawnPair 3 = .ok (.iconst 0, 1) := by decide +kernel
theorem dX9_drawnPair_4 : decode cX9_drawnPair 4 = .ok (.istore 5, 2) := by decide +kernel
theorem dX9_drawnPair_6 : decode cX9_drawnPair 6 = .ok (.iload 5, 2) := by decide +kernel
theorem dX9_drawnPair_8 : decode cX9_drawnPair 8 = .ok (.aload_n 0, 1) := by decide +kernel
theorem dX9_drawnPair_9 : decode cX9_drawnPair 9 = .ok (.getfield 19, 3) := by decide +kernel
theorem dX9_drawnPair_12 : decode cX9_drawnPair 12 = .ok (.getfield 27, 3) := by decide +kernel
theorem dX9_drawnPair_15 : decode cX9_drawnPair 15 = .ok (.if_icmp .ge 34, 3) := by decide +kernel
theorem dX9_drawnPair_18 : decode cX9_drawnPair 18 = .ok (.aload_n 0, 1) := by decide +kernel
theorem dX9_drawnPair_19 : decode cX9_drawnPair 19 = .ok (.getfield 23, 3) := by decide +kernel
theorem dX9_drawnPair_22 : decode cX9_drawnPair 22 = .ok (.lload_n 1, 1) := by decide +kernel
theorem dX9_drawnPair_23 : decode cX9_drawnPair 23 = .ok (.iload 5, 2) := by decide +kernel
theorem dX9_drawnPair_25 : decode cX9_drawnPair 25 = .ok (.invokevirtual 33, 3) := by decide +kernel
theorem dX9_drawnPair_28 : decode cX9_drawnPair 28 = .ok (.ifCond .eq 15, 3) := by decide +kernel
theorem dX9_drawnPair_31 : decode cX9_drawnPair 31 = .ok (.aload_n 0, 1) := by decide +kernel
theorem dX9_drawnPair_32 : decode cX9_drawnPair 32 = .ok (.getfield 15, 3) := by decide +kernel
theorem dX9_drawnPair_35 : decode cX9_drawnPair 35 = .ok (.iload 4, 2) := by decide +kernel
theorem dX9_drawnPair_37 : decode cX9_drawnPair 37 = .ok (.iload 5, 2) := by decide +kernel
theorem dX9_drawnPair_39 : decode cX9_drawnPair 39 = .ok (.iastore, 1) := by decide +kernel
theorem dX9_drawnPair_40 : decode cX9_drawnPair 40 = .ok (.iinc 4 1, 3) := by decide +kernel
theorem dX9_drawnPair_43 : decode cX9_drawnPair 43 = .ok (.iinc 5 1, 3) := by decide +kernel
theorem dX9_drawnPair_46 : decode cX9_drawnPair 46 = .ok (.goto (-40), 3) := by decide +kernel
theorem dX9_drawnPair_49 : decode cX9_drawnPair 49 = .ok (.iload 4, 2) := by decide +kernel
theorem dX9_drawnPair_51 : decode cX9_drawnPair 51 = .ok (.ifCond .ne 5, 3) := by decide +kernel
theorem dX9_drawnPair_54 : decode cX9_drawnPair 54 = .ok (.iconst (-1), 1) := by decide +kernel
theorem dX9_drawnPair_55 : decode cX9_drawnPair 55 = .ok (.ireturn, 1) := by decide +kernel
theorem dX9_drawnPair_56 : decode cX9_drawnPair 56 = .ok (.ldc2_w 39, 3) := by decide +kernel
theorem dX9_drawnPair_59 : decode cX9_drawnPair 59 = .ok (.iload_n 3, 1) := by decide +kernel
theorem dX9_drawnPair_60 : decode cX9_drawnPair 60 = .ok (.i2l, 1) := by decide +kernel
theorem dX9_drawnPair_61 : decode cX9_drawnPair 61 = .ok (.lmul, 1) := by decide +kernel
theorem dX9_drawnPair_62 : decode cX9_drawnPair 62 = .ok (.ldc2_w 41, 3) := by decide +kernel
theorem dX9_drawnPair_65 : decode cX9_drawnPair 65 = .ok (.ladd, 1) := by decide +kernel
theorem dX9_drawnPair_66 : decode cX9_drawnPair 66 = .ok (.ldc2_w 43, 3) := by decide +kernel
theorem dX9_drawnPair_69 : decode cX9_drawnPair 69 = .ok (.lrem, 1) := by decide +kernel
theorem dX9_drawnPair_70 : decode cX9_drawnPair 70 = .ok (.lstore 5, 2) := by decide +kernel
theorem dX9_drawnPair_72 : decode cX9_drawnPair 72 = .ok (.aload_n 0, 1) := by decide +kernel
theorem dX9_drawnPair_73 : decode cX9_drawnPair 73 = .ok (.getfield 15, 3) := by decide +kernel
theorem dX9_drawnPair_76 : decode cX9_drawnPair 76 = .ok (.lload 5, 2) := by decide +kernel
theorem dX9_drawnPair_78 : decode cX9_drawnPair 78 = .ok (.ldc2_w 45, 3) := by decide +kernel
theorem dX9_drawnPair_81 : decode cX9_drawnPair 81 = .ok (.ldiv, 1) := by decide +kernel
theorem dX9_drawnPair_82 : decode cX9_drawnPair 82 = .ok (.iload 4, 2) := by decide +kernel
theorem dX9_drawnPair_84 : decode cX9_drawnPair 84 = .ok (.i2l, 1) := by decide +kernel
theorem dX9_drawnPair_85 : decode cX9_drawnPair 85 = .ok (.lrem, 1) := by decide +kernel
theorem dX9_drawnPair_86 : decode cX9_drawnPair 86 = .ok (.l2i, 1) := by decide +kernel
theorem dX9_drawnPair_87 : decode cX9_drawnPair 87 = .ok (.iaload, 1) := by decide +kernel
theorem dX9_drawnPair_88 : decode cX9_drawnPair 88 = .ok (.ireturn, 1) := by decide +kernel
theorem dX9_from_0 : decode cX9_from 0 = .ok (.aload_n 0, 1) := by decide +kernel
theorem dX9_from_1 : decode cX9_from 1 = .ok (.getfield 9, 3) := by decide +kernel
theorem dX9_from_4 : decode cX9_from 4 = .ok (.iconst 0, 1) := by decide +kernel
theorem dX9_from_5 : decode cX9_from 5 = .ok (.lload_n 1, 1) := by decide +kernel
theorem dX9_from_6 : decode cX9_from 6 = .ok (.lastore, 1) := by decide +kernel
theorem dX9_from_7 : decode cX9_from 7 = .ok (.aload_n 0, 1) := by decide +kernel
theorem dX9_from_8 : decode cX9_from 8 = .ok (.iconst 0, 1) := by decide +kernel
theorem dX9_from_9 : decode cX9_from 9 = .ok (.putfield 47, 3) := by decide +kernel
theorem dX9_from_12 : decode cX9_from 12 = .ok (.aload_n 0, 1) := by decide +kernel
theorem dX9_from_13 : decode cX9_from 13 = .ok (.iconst 0, 1) := by decide +kernel
theorem dX9_from_14 : decode cX9_from 14 = .ok (.putfield 50, 3) := by decide +kernel
theorem dX9_from_17 : decode cX9_from 17 = .ok (.aload_n 0, 1) := by decide +kernel
theorem dX9_from_18 : decode cX9_from 18 = .ok (.iconst 0, 1) := by decide +kernel
theorem dX9_from_19 : decode cX9_from 19 = .ok (.putfield 53, 3) := by decide +kernel
theorem dX9_from_22 : decode cX9_from 22 = .ok (.iconst 0, 1) := by decide +kernel
theorem dX9_from_23 : decode cX9_from 23 = .ok (.istore_n 3, 1) := by decide +kernel
theorem dX9_from_24 : decode cX9_from 24 = .ok (.iload_n 3, 1) := by decide +kernel
theorem dX9_from_25 : decode cX9_from 25 = .ok (.sipush 200, 3) := by decide +kernel
theorem dX9_from_28 : decode cX9_from 28 = .ok (.if_icmp .gt 114, 3) := by decide +kernel
theorem dX9_from_31 : decode cX9_from 31 = .ok (.aload_n 0, 1) := by decide +kernel
theorem dX9_from_32 : decode cX9_from 32 = .ok (.getfield 53, 3) := by decide +kernel
theorem dX9_from_35 : decode cX9_from 35 = .ok (.ifCond .ne 107, 3) := by decide +kernel
theorem dX9_from_38 : decode cX9_from 38 = .ok (.aload_n 0, 1) := by decide +kernel
theorem dX9_from_39 : decode cX9_from 39 = .ok (.aload_n 0, 1) := by decide +kernel
theorem dX9_from_40 : decode cX9_from 40 = .ok (.getfield 9, 3) := by decide +kernel
theorem dX9_from_43 : decode cX9_from 43 = .ok (.aload_n 0, 1) := by decide +kernel
theorem dX9_from_44 : decode cX9_from 44 = .ok (.getfield 47, 3) := by decide +kernel
theorem dX9_from_47 : decode cX9_from 47 = .ok (.laload, 1) := by decide +kernel
theorem dX9_from_48 : decode cX9_from 48 = .ok (.invokevirtual 57, 3) := by decide +kernel
theorem dX9_from_51 : decode cX9_from 51 = .ok (.istore 4, 2) := by decide +kernel
theorem dX9_from_53 : decode cX9_from 53 = .ok (.iload 4, 2) := by decide +kernel
theorem dX9_from_55 : decode cX9_from 55 = .ok (.iconst (-1), 1) := by decide +kernel
theorem dX9_from_56 : decode cX9_from 56 = .ok (.if_icmp .ne 11, 3) := by decide +kernel
theorem dX9_from_59 : decode cX9_from 59 = .ok (.aload_n 0, 1) := by decide +kernel
theorem dX9_from_60 : decode cX9_from 60 = .ok (.iconst 1, 1) := by decide +kernel
theorem dX9_from_61 : decode cX9_from 61 = .ok (.putfield 53, 3) := by decide +kernel
theorem dX9_from_64 : decode cX9_from 64 = .ok (.goto 72, 3) := by decide +kernel
theorem dX9_from_67 : decode cX9_from 67 = .ok (.aload_n 0, 1) := by decide +kernel
theorem dX9_from_68 : decode cX9_from 68 = .ok (.getfield 47, 3) := by decide +kernel
theorem dX9_from_71 : decode cX9_from 71 = .ok (.sipush 200, 3) := by decide +kernel
theorem dX9_from_74 : decode cX9_from 74 = .ok (.if_icmp .ge 62, 3) := by decide +kernel
theorem dX9_from_77 : decode cX9_from 77 = .ok (.aload_n 0, 1) := by decide +kernel
theorem dX9_from_78 : decode cX9_from 78 = .ok (.getfield 9, 3) := by decide +kernel
theorem dX9_from_81 : decode cX9_from 81 = .ok (.aload_n 0, 1) := by decide +kernel
theorem dX9_from_82 : decode cX9_from 82 = .ok (.getfield 47, 3) := by decide +kernel
theorem dX9_from_85 : decode cX9_from 85 = .ok (.iconst 1, 1) := by decide +kernel
theorem dX9_from_86 : decode cX9_from 86 = .ok (.iadd, 1) := by decide +kernel
theorem dX9_from_87 : decode cX9_from 87 = .ok (.aload_n 0, 1) := by decide +kernel
theorem dX9_from_88 : decode cX9_from 88 = .ok (.getfield 9, 3) := by decide +kernel
theorem dX9_from_91 : decode cX9_from 91 = .ok (.aload_n 0, 1) := by decide +kernel
theorem dX9_from_92 : decode cX9_from 92 = .ok (.getfield 47, 3) := by decide +kernel
theorem dX9_from_95 : decode cX9_from 95 = .ok (.laload, 1) := by decide +kernel
theorem dX9_from_96 : decode cX9_from 96 = .ok (.lconst 1, 1) := by decide +kernel
theorem dX9_from_97 : decode cX9_from 97 = .ok (.iload 4, 2) := by decide +kernel
theorem dX9_from_99 : decode cX9_from 99 = .ok (.lshl, 1) := by decide +kernel
theorem dX9_from_100 : decode cX9_from 100 = .ok (.lxor, 1) := by decide +kernel
theorem dX9_from_101 : decode cX9_from 101 = .ok (.lastore, 1) := by decide +kernel
theorem dX9_from_102 : decode cX9_from 102 = .ok (.aload_n 0, 1) := by decide +kernel
theorem dX9_from_103 : decode cX9_from 103 = .ok (.dup, 1) := by decide +kernel
theorem dX9_from_104 : decode cX9_from 104 = .ok (.getfield 47, 3) := by decide +kernel
theorem dX9_from_107 : decode cX9_from 107 = .ok (.iconst 1, 1) := by decide +kernel
theorem dX9_from_108 : decode cX9_from 108 = .ok (.iadd, 1) := by decide +kernel
theorem dX9_from_109 : decode cX9_from 109 = .ok (.putfield 47, 3) := by decide +kernel
theorem dX9_from_112 : decode cX9_from 112 = .ok (.aload_n 0, 1) := by decide +kernel
theorem dX9_from_113 : decode cX9_from 113 = .ok (.aload_n 0, 1) := by decide +kernel
theorem dX9_from_114 : decode cX9_from 114 = .ok (.invokevirtual 61, 3) := by decide +kernel
theorem dX9_from_117 : decode cX9_from 117 = .ok (.putfield 50, 3) := by decide +kernel
theorem dX9_from_120 : decode cX9_from 120 = .ok (.aload_n 0, 1) := by decide +kernel
theorem dX9_from_121 : decode cX9_from 121 = .ok (.aload_n 0, 1) := by decide +kernel
theorem dX9_from_122 : decode cX9_from 122 = .ok (.getfield 50, 3) := by decide +kernel
theorem dX9_from_125 : decode cX9_from 125 = .ok (.ifCond .le 7, 3) := by decide +kernel
theorem dX9_from_128 : decode cX9_from 128 = .ok (.iconst 1, 1) := by decide +kernel
theorem dX9_from_129 : decode cX9_from 129 = .ok (.goto 4, 3) := by decide +kernel
theorem dX9_from_132 : decode cX9_from 132 = .ok (.iconst 0, 1) := by decide +kernel
theorem dX9_from_133 : decode cX9_from 133 = .ok (.putfield 53, 3) := by decide +kernel
theorem dX9_from_136 : decode cX9_from 136 = .ok (.iinc 3 1, 3) := by decide +kernel
theorem dX9_from_139 : decode cX9_from 139 = .ok (.goto (-115), 3) := by decide +kernel
theorem dX9_from_142 : decode cX9_from 142 = .ok (.return_, 1) := by decide +kernel
theorem dX9_lastNet_0 : decode cX9_lastNet 0 = .ok (.aload_n 0, 1) := by decide +kernel
theorem dX9_lastNet_1 : decode cX9_lastNet 1 = .ok (.getfield 9, 3) := by decide +kernel
theorem dX9_lastNet_4 : decode cX9_lastNet 4 = .ok (.aload_n 0, 1) := by decide +kernel
theorem dX9_lastNet_5 : decode cX9_lastNet 5 = .ok (.getfield 47, 3) := by decide +kernel
theorem dX9_lastNet_8 : decode cX9_lastNet 8 = .ok (.laload, 1) := by decide +kernel
theorem dX9_lastNet_9 : decode cX9_lastNet 9 = .ok (.lreturn, 1) := by decide +kernel
theorem dX9_leastOfRing_0 : decode cX9_leastOfRing 0 = .ok (.aload_n 0, 1) := by decide +kernel
theorem dX9_leastOfRing_1 : decode cX9_leastOfRing 1 = .ok (.getfield 50, 3) := by decide +kernel
theorem dX9_leastOfRing_4 : decode cX9_leastOfRing 4 = .ok (.ifCond .ne 7, 3) := by decide +kernel
theorem dX9_leastOfRing_7 : decode cX9_leastOfRing 7 = .ok (.ldc2_w 65, 3) := by decide +kernel
theorem dX9_leastOfRing_10 : decode cX9_leastOfRing 10 = .ok (.lreturn, 1) := by decide +kernel
theorem dX9_leastOfRing_11 : decode cX9_leastOfRing 11 = .ok (.aload_n 0, 1) := by decide +kernel
theorem dX9_leastOfRing_12 : decode cX9_leastOfRing 12 = .ok (.getfield 9, 3) := by decide +kernel
theorem dX9_leastOfRing_15 : decode cX9_leastOfRing 15 = .ok (.aload_n 0, 1) := by decide +kernel
theorem dX9_leastOfRing_16 : decode cX9_leastOfRing 16 = .ok (.getfield 47, 3) := by decide +kernel
theorem dX9_leastOfRing_19 : decode cX9_leastOfRing 19 = .ok (.laload, 1) := by decide +kernel
theorem dX9_leastOfRing_20 : decode cX9_leastOfRing 20 = .ok (.lstore_n 1, 1) := by decide +kernel
theorem dX9_leastOfRing_21 : decode cX9_leastOfRing 21 = .ok (.aload_n 0, 1) := by decide +kernel
theorem dX9_leastOfRing_22 : decode cX9_leastOfRing 22 = .ok (.getfield 47, 3) := by decide +kernel
theorem dX9_leastOfRing_25 : decode cX9_leastOfRing 25 = .ok (.aload_n 0, 1) := by decide +kernel
theorem dX9_leastOfRing_26 : decode cX9_leastOfRing 26 = .ok (.getfield 50, 3) := by decide +kernel
theorem dX9_leastOfRing_29 : decode cX9_leastOfRing 29 = .ok (.isub, 1) := by decide +kernel
theorem dX9_leastOfRing_30 : decode cX9_leastOfRing 30 = .ok (.istore_n 3, 1) := by decide +kernel
theorem dX9_leastOfRing_31 : decode cX9_leastOfRing 31 = .ok (.iload_n 3, 1) := by decide +kernel
theorem dX9_leastOfRing_32 : decode cX9_leastOfRing 32 = .ok (.aload_n 0, 1) := by decide +kernel
theorem dX9_leastOfRing_33 : decode cX9_leastOfRing 33 = .ok (.getfield 47, 3) := by decide +kernel
theorem dX9_leastOfRing_36 : decode cX9_leastOfRing 36 = .ok (.if_icmp .ge 31, 3) := by decide +kernel
theorem dX9_leastOfRing_39 : decode cX9_leastOfRing 39 = .ok (.iload_n 3, 1) := by decide +kernel
theorem dX9_leastOfRing_40 : decode cX9_leastOfRing 40 = .ok (.ifCond .lt 21, 3) := by decide +kernel
theorem dX9_leastOfRing_43 : decode cX9_leastOfRing 43 = .ok (.aload_n 0, 1) := by decide +kernel
theorem dX9_leastOfRing_44 : decode cX9_leastOfRing 44 = .ok (.getfield 9, 3) := by decide +kernel
theorem dX9_leastOfRing_47 : decode cX9_leastOfRing 47 = .ok (.iload_n 3, 1) := by decide +kernel
theorem dX9_leastOfRing_48 : decode cX9_leastOfRing 48 = .ok (.laload, 1) := by decide +kernel
theorem dX9_leastOfRing_49 : decode cX9_leastOfRing 49 = .ok (.lload_n 1, 1) := by decide +kernel
theorem dX9_leastOfRing_50 : decode cX9_leastOfRing 50 = .ok (.lcmp, 1) := by decide +kernel
theorem dX9_leastOfRing_51 : decode cX9_leastOfRing 51 = .ok (.ifCond .ge 10, 3) := by decide +kernel
theorem dX9_leastOfRing_54 : decode cX9_leastOfRing 54 = .ok (.aload_n 0, 1) := by decide +kernel
theorem dX9_leastOfRing_55 : decode cX9_leastOfRing 55 = .ok (.getfield 9, 3) := by decide +kernel
theorem dX9_leastOfRing_58 : decode cX9_leastOfRing 58 = .ok (.iload_n 3, 1) := by decide +kernel
theorem dX9_leastOfRing_59 : decode cX9_leastOfRing 59 = .ok (.laload, 1) := by decide +kernel
theorem dX9_leastOfRing_60 : decode cX9_leastOfRing 60 = .ok (.lstore_n 1, 1) := by decide +kernel
theorem dX9_leastOfRing_61 : decode cX9_leastOfRing 61 = .ok (.iinc 3 1, 3) := by decide +kernel
theorem dX9_leastOfRing_64 : decode cX9_leastOfRing 64 = .ok (.goto (-33), 3) := by decide +kernel
theorem dX9_leastOfRing_67 : decode cX9_leastOfRing 67 = .ok (.lload_n 1, 1) := by decide +kernel
theorem dX9_leastOfRing_68 : decode cX9_leastOfRing 68 = .ok (.lreturn, 1) := by decide +kernel
theorem dX9_stepsSinceThere_0 : decode cX9_stepsSinceThere 0 = .ok (.iconst 0, 1) := by decide +kernel
theorem dX9_stepsSinceThere_1 : decode cX9_stepsSinceThere 1 = .ok (.istore_n 1, 1) := by decide +kernel
theorem dX9_stepsSinceThere_2 : decode cX9_stepsSinceThere 2 = .ok (.iload_n 1, 1) := by decide +kernel
theorem dX9_stepsSinceThere_3 : decode cX9_stepsSinceThere 3 = .ok (.aload_n 0, 1) := by decide +kernel
theorem dX9_stepsSinceThere_4 : decode cX9_stepsSinceThere 4 = .ok (.getfield 47, 3) := by decide +kernel
theorem dX9_stepsSinceThere_7 : decode cX9_stepsSinceThere 7 = .ok (.if_icmp .ge 35, 3) := by decide +kernel
theorem dX9_stepsSinceThere_10 : decode cX9_stepsSinceThere 10 = .ok (.aload_n 0, 1) := by decide +kernel
theorem dX9_stepsSinceThere_11 : decode cX9_stepsSinceThere 11 = .ok (.getfield 9, 3) := by decide +kernel
theorem dX9_stepsSinceThere_14 : decode cX9_stepsSinceThere 14 = .ok (.iload_n 1, 1) := by decide +kernel
theorem dX9_stepsSinceThere_15 : decode cX9_stepsSinceThere 15 = .ok (.laload, 1) := by decide +kernel
theorem dX9_stepsSinceThere_16 : decode cX9_stepsSinceThere 16 = .ok (.aload_n 0, 1) := by decide +kernel
theorem dX9_stepsSinceThere_17 : decode cX9_stepsSinceThere 17 = .ok (.getfield 9, 3) := by decide +kernel
theorem dX9_stepsSinceThere_20 : decode cX9_stepsSinceThere 20 = .ok (.aload_n 0, 1) := by decide +kernel
theorem dX9_stepsSinceThere_21 : decode cX9_stepsSinceThere 21 = .ok (.getfield 47, 3) := by decide +kernel
theorem dX9_stepsSinceThere_24 : decode cX9_stepsSinceThere 24 = .ok (.laload, 1) := by decide +kernel
theorem dX9_stepsSinceThere_25 : decode cX9_stepsSinceThere 25 = .ok (.lcmp, 1) := by decide +kernel
theorem dX9_stepsSinceThere_26 : decode cX9_stepsSinceThere 26 = .ok (.ifCond .ne 10, 3) := by decide +kernel
theorem dX9_stepsSinceThere_29 : decode cX9_stepsSinceThere 29 = .ok (.aload_n 0, 1) := by decide +kernel
theorem dX9_stepsSinceThere_30 : decode cX9_stepsSinceThere 30 = .ok (.getfield 47, 3) := by decide +kernel
theorem dX9_stepsSinceThere_33 : decode cX9_stepsSinceThere 33 = .ok (.iload_n 1, 1) := by decide +kernel
theorem dX9_stepsSinceThere_34 : decode cX9_stepsSinceThere 34 = .ok (.isub, 1) := by decide +kernel
theorem dX9_stepsSinceThere_35 : decode cX9_stepsSinceThere 35 = .ok (.ireturn, 1) := by decide +kernel
theorem dX9_stepsSinceThere_36 : decode cX9_stepsSinceThere 36 = .ok (.iinc 1 1, 3) := by decide +kernel
theorem dX9_stepsSinceThere_39 : decode cX9_stepsSinceThere 39 = .ok (.goto (-37), 3) := by decide +kernel
theorem dX9_stepsSinceThere_42 : decode cX9_stepsSinceThere 42 = .ok (.iconst 0, 1) := by decide +kernel
theorem dX9_stepsSinceThere_43 : decode cX9_stepsSinceThere 43 = .ok (.ireturn, 1) := by decide +kernel
theorem dX10_init_0 : decode cX10_init 0 = .ok (.aload_n 0, 1) := by decide +kernel
theorem dX10_init_1 : decode cX10_init 1 = .ok (.invokespecial 3, 3) := by decide +kernel
theorem dX10_init_4 : decode cX10_init 4 = .ok (.aload_n 0, 1) := by decide +kernel
theorem dX10_init_5 : decode cX10_init 5 = .ok (.sipush 8192, 3) := by decide +kernel
theorem dX10_init_8 : decode cX10_init 8 = .ok (.newarray .long, 2) := by decide +kernel
theorem dX10_init_10 : decode cX10_init 10 = .ok (.putfield 11, 3) := by decide +kernel
theorem dX10_init_13 : decode cX10_init 13 = .ok (.aload_n 0, 1) := by decide +kernel
theorem dX10_init_14 : decode cX10_init 14 = .ok (.sipush 8192, 3) := by decide +kernel
theorem dX10_init_17 : decode cX10_init 17 = .ok (.newarray .long, 2) := by decide +kernel
theorem dX10_init_19 : decode cX10_init 19 = .ok (.putfield 15, 3) := by decide +kernel
theorem dX10_init_22 : decode cX10_init 22 = .ok (.aload_n 0, 1) := by decide +kernel
theorem dX10_init_23 : decode cX10_init 23 = .ok (.bipush 10, 2) := by decide +kernel
theorem dX10_init_25 : decode cX10_init 25 = .ok (.newarray .int, 2) := by decide +kernel
theorem dX10_init_27 : decode cX10_init 27 = .ok (.putfield 18, 3) := by decide +kernel
theorem dX10_init_30 : decode cX10_init 30 = .ok (.aload_n 0, 1) := by decide +kernel
theorem dX10_init_31 : decode cX10_init 31 = .ok (.bipush 10, 2) := by decide +kernel
theorem dX10_init_33 : decode cX10_init 33 = .ok (.newarray .int, 2) := by decide +kernel
theorem dX10_init_35 : decode cX10_init 35 = .ok (.putfield 22, 3) := by decide +kernel
theorem dX10_init_38 : decode cX10_init 38 = .ok (.aload_n 0, 1) := by decide +kernel
theorem dX10_init_39 : decode cX10_init 39 = .ok (.aload_n 1, 1) := by decide +kernel
theorem dX10_init_40 : decode cX10_init 40 = .ok (.putfield 25, 3) := by decide +kernel
theorem dX10_init_43 : decode cX10_init 43 = .ok (.aload_n 0, 1) := by decide +kernel
theorem dX10_init_44 : decode cX10_init 44 = .ok (.aload_n 2, 1) := by decide +kernel
theorem dX10_init_45 : decode cX10_init 45 = .ok (.putfield 29, 3) := by decide +kernel
theorem dX10_init_48 : decode cX10_init 48 = .ok (.return_, 1) := by decide +kernel
theorem dX10_startAnew_0 : decode cX10_startAnew 0 = .ok (.aload_n 0, 1) := by decide +kernel
theorem dX10_startAnew_1 : decode cX10_startAnew 1 = .ok (.iconst 0, 1) := by decide +kernel
theorem dX10_startAnew_2 : decode cX10_startAnew 2 = .ok (.putfield 33, 3) := by decide +kernel
theorem dX10_startAnew_5 : decode cX10_startAnew 5 = .ok (.aload_n 0, 1) := by decide +kernel
theorem dX10_startAnew_6 : decode cX10_startAnew 6 = .ok (.ldc2_w 37, 3) := by decide +kernel
theorem dX10_startAnew_9 : decode cX10_startAnew 9 = .ok (.putfield 39, 3) := by decide +kernel
theorem dX10_startAnew_12 : decode cX10_startAnew 12 = .ok (.aload_n 0, 1) := by decide +kernel
theorem dX10_startAnew_13 : decode cX10_startAnew 13 = .ok (.iconst (-1), 1) := by decide +kernel
theorem dX10_startAnew_14 : decode cX10_startAnew 14 = .ok (.iconst 0, 1) := by decide +kernel
theorem dX10_startAnew_15 : decode cX10_startAnew 15 = .ok (.invokevirtual 43, 3) := by decide +kernel
theorem dX10_startAnew_18 : decode cX10_startAnew 18 = .ok (.aload_n 0, 1) := by decide +kernel
theorem dX10_startAnew_19 : decode cX10_startAnew 19 = .ok (.getfield 11, 3) := by decide +kernel
theorem dX10_startAnew_22 : decode cX10_startAnew 22 = .ok (.ldc2_w 37, 3) := by decide +kernel
theorem dX10_startAnew_25 : decode cX10_startAnew 25 = .ok (.invokestatic 47, 3) := by decide +kernel
theorem dX10_startAnew_28 : decode cX10_startAnew 28 = .ok (.return_, 1) := by decide +kernel
theorem dX10_pretend_0 : decode cX10_pretend 0 = .ok (.aload_n 0, 1) := by decide +kernel
theorem dX10_pretend_1 : decode cX10_pretend 1 = .ok (.iload_n 1, 1) := by decide +kernel
theorem dX10_pretend_2 : decode cX10_pretend 2 = .ok (.putfield 53, 3) := by decide +kernel
theorem dX10_pretend_5 : decode cX10_pretend 5 = .ok (.aload_n 0, 1) := by decide +kernel
theorem dX10_pretend_6 : decode cX10_pretend 6 = .ok (.iload_n 2, 1) := by decide +kernel
theorem dX10_pretend_7 : decode cX10_pretend 7 = .ok (.putfield 56, 3) := by decide +kernel
theorem dX10_pretend_10 : decode cX10_pretend 10 = .ok (.return_, 1) := by decide +kernel
theorem dX10_of_0 : decode cX10_of 0 = .ok (.lload_n 1, 1) := by decide +kernel
theorem dX10_of_1 : decode cX10_of 1 = .ok (.aload_n 0, 1) := by decide +kernel
theorem dX10_of_2 : decode cX10_of 2 = .ok (.getfield 25, 3) := by decide +kernel
theorem dX10_of_5 : decode cX10_of 5 = .ok (.getfield 59, 3) := by decide +kernel
theorem dX10_of_8 : decode cX10_of 8 = .ok (.i2l, 1) := by decide +kernel
theorem dX10_of_9 : decode cX10_of 9 = .ok (.lmul, 1) := by decide +kernel
theorem dX10_of_10 : decode cX10_of 10 = .ok (.iload_n 3, 1) := by decide +kernel
theorem dX10_of_11 : decode cX10_of 11 = .ok (.i2l, 1) := by decide +kernel
theorem dX10_of_12 : decode cX10_of 12 = .ok (.ladd, 1) := by decide +kernel
theorem dX10_of_13 : decode cX10_of 13 = .ok (.lstore 4, 2) := by decide +kernel
theorem dX10_of_15 : decode cX10_of 15 = .ok (.lload 4, 2) := by decide +kernel
theorem dX10_of_17 : decode cX10_of 17 = .ok (.ldc2_w 64, 3) := by decide +kernel
theorem dX10_of_20 : decode cX10_of 20 = .ok (.lcmp, 1) := by decide +kernel
theorem dX10_of_21 : decode cX10_of 21 = .ok (.ifCond .ge 8, 3) := by decide +kernel
theorem dX10_of_24 : decode cX10_of 24 = .ok (.lload 4, 2) := by decide +kernel
theorem dX10_of_26 : decode cX10_of 26 = .ok (.goto 8, 3) := by decide +kernel
theorem dX10_of_29 : decode cX10_of 29 = .ok (.lload 4, 2) := by decide +kernel
theorem dX10_of_31 : decode cX10_of 31 = .ok (.invokestatic 66, 3) := by decide +kernel
theorem dX10_of_34 : decode cX10_of 34 = .ok (.l2i, 1) := by decide +kernel
theorem dX10_of_35 : decode cX10_of 35 = .ok (.sipush 8191, 3) := by decide +kernel
theorem dX10_of_38 : decode cX10_of 38 = .ok (.iand, 1) := by decide +kernel
theorem dX10_of_39 : decode cX10_of 39 = .ok (.istore 6, 2) := by decide +kernel
theorem dX10_of_41 : decode cX10_of 41 = .ok (.aload_n 0, 1) := by decide +kernel
theorem dX10_of_42 : decode cX10_of 42 = .ok (.getfield 11, 3) := by decide +kernel
theorem dX10_of_45 : decode cX10_of 45 = .ok (.iload 6, 2) := by decide +kernel
theorem dX10_of_47 : decode cX10_of 47 = .ok (.laload, 1) := by decide +kernel
theorem dX10_of_48 : decode cX10_of 48 = .ok (.lload 4, 2) := by decide +kernel
theorem dX10_of_50 : decode cX10_of 50 = .ok (.lcmp, 1) := by decide +kernel
theorem dX10_of_51 : decode cX10_of 51 = .ok (.ifCond .eq 25, 3) := by decide +kernel
theorem dX10_of_54 : decode cX10_of 54 = .ok (.aload_n 0, 1) := by decide +kernel
theorem dX10_of_55 : decode cX10_of 55 = .ok (.getfield 15, 3) := by decide +kernel
theorem dX10_of_58 : decode cX10_of 58 = .ok (.iload 6, 2) := by decide +kernel
theorem dX10_of_60 : decode cX10_of 60 = .ok (.aload_n 0, 1) := by decide +kernel
theorem dX10_of_61 : decode cX10_of 61 = .ok (.lload_n 1, 1) := by decide +kernel
theorem dX10_of_62 : decode cX10_of 62 = .ok (.iload_n 3, 1) := by decide +kernel
theorem dX10_of_63 : decode cX10_of 63 = .ok (.invokevirtual 70, 3) := by decide +kernel
theorem dX10_of_66 : decode cX10_of 66 = .ok (.lastore, 1) := by decide +kernel
theorem dX10_of_67 : decode cX10_of 67 = .ok (.aload_n 0, 1) := by decide +kernel
theorem dX10_of_68 : decode cX10_of 68 = .ok (.getfield 11, 3) := by decide +kernel
theorem dX10_of_71 : decode cX10_of 71 = .ok (.iload 6, 2) := by decide +kernel
theorem dX10_of_73 : decode cX10_of 73 = .ok (.lload 4, 2) := by decide +kernel
theorem dX10_of_75 : decode cX10_of 75 = .ok (.lastore, 1) := by decide +kernel
theorem dX10_of_76 : decode cX10_of 76 = .ok (.iload_n 3, 1) := by decide +kernel
theorem dX10_of_77 : decode cX10_of 77 = .ok (.aload_n 0, 1) := by decide +kernel
theorem dX10_of_78 : decode cX10_of 78 = .ok (.getfield 53, 3) := by decide +kernel
theorem dX10_of_81 : decode cX10_of 81 = .ok (.if_icmp .ne 16, 3) := by decide +kernel
theorem dX10_of_84 : decode cX10_of 84 = .ok (.aload_n 0, 1) := by decide +kernel
theorem dX10_of_85 : decode cX10_of 85 = .ok (.getfield 33, 3) := by decide +kernel
theorem dX10_of_88 : decode cX10_of 88 = .ok (.aload_n 0, 1) := by decide +kernel
theorem dX10_of_89 : decode cX10_of 89 = .ok (.getfield 56, 3) := by decide +kernel
theorem dX10_of_92 : decode cX10_of 92 = .ok (.iadd, 1) := by decide +kernel
theorem dX10_of_93 : decode cX10_of 93 = .ok (.i2l, 1) := by decide +kernel
theorem dX10_of_94 : decode cX10_of 94 = .ok (.goto 8, 3) := by decide +kernel
theorem dX10_of_97 : decode cX10_of 97 = .ok (.aload_n 0, 1) := by decide +kernel
theorem dX10_of_98 : decode cX10_of 98 = .ok (.getfield 33, 3) := by decide +kernel
theorem dX10_of_101 : decode cX10_of 101 = .ok (.i2l, 1) := by decide +kernel
theorem dX10_of_102 : decode cX10_of 102 = .ok (.lstore 7, 2) := by decide +kernel
theorem dX10_of_104 : decode cX10_of 104 = .ok (.lload 7, 2) := by decide +kernel
theorem dX10_of_106 : decode cX10_of 106 = .ok (.lconst 0, 1) := by decide +kernel
theorem dX10_of_107 : decode cX10_of 107 = .ok (.lcmp, 1) := by decide +kernel
theorem dX10_of_108 : decode cX10_of 108 = .ok (.ifCond .ne 13, 3) := by decide +kernel
theorem dX10_of_111 : decode cX10_of 111 = .ok (.aload_n 0, 1) := by decide +kernel
theorem dX10_of_112 : decode cX10_of 112 = .ok (.getfield 15, 3) := by decide +kernel
theorem dX10_of_115 : decode cX10_of 115 = .ok (.iload 6, 2) := by decide +kernel
theorem dX10_of_117 : decode cX10_of 117 = .ok (.laload, 1) := by decide +kernel
theorem dX10_of_118 : decode cX10_of 118 = .ok (.goto 32, 3) := by decide +kernel
theorem dX10_of_121 : decode cX10_of 121 = .ok (.aload_n 0, 1) := by decide +kernel
theorem dX10_of_122 : decode cX10_of 122 = .ok (.getfield 15, 3) := by decide +kernel
theorem dX10_of_125 : decode cX10_of 125 = .ok (.iload 6, 2) := by decide +kernel
theorem dX10_of_127 : decode cX10_of 127 = .ok (.laload, 1) := by decide +kernel
theorem dX10_of_128 : decode cX10_of 128 = .ok (.lload 7, 2) := by decide +kernel
theorem dX10_of_130 : decode cX10_of 130 = .ok (.lload_n 1, 1) := by decide +kernel
theorem dX10_of_131 : decode cX10_of 131 = .ok (.aload_n 0, 1) := by decide +kernel
theorem dX10_of_132 : decode cX10_of 132 = .ok (.getfield 25, 3) := by decide +kernel
theorem dX10_of_135 : decode cX10_of 135 = .ok (.getfield 74, 3) := by decide +kernel
theorem dX10_of_138 : decode cX10_of 138 = .ok (.getfield 78, 3) := by decide +kernel
theorem dX10_of_141 : decode cX10_of 141 = .ok (.iload_n 3, 1) := by decide +kernel
theorem dX10_of_142 : decode cX10_of 142 = .ok (.laload, 1) := by decide +kernel
theorem dX10_of_143 : decode cX10_of 143 = .ok (.land, 1) := by decide +kernel
theorem dX10_of_144 : decode cX10_of 144 = .ok (.invokestatic 83, 3) := by decide +kernel
theorem dX10_of_147 : decode cX10_of 147 = .ok (.i2l, 1) := by decide +kernel
theorem dX10_of_148 : decode cX10_of 148 = .ok (.lmul, 1) := by decide +kernel
theorem dX10_of_149 : decode cX10_of 149 = .ok (.lsub, 1) := by decide +kernel
theorem dX10_of_150 : decode cX10_of 150 = .ok (.lreturn, 1) := by decide +kernel
theorem dX10_mix_0 : decode cX10_mix 0 = .ok (.lload_n 0, 1) := by decide +kernel
theorem dX10_mix_1 : decode cX10_mix 1 = .ok (.lload_n 0, 1) := by decide +kernel
theorem dX10_mix_2 : decode cX10_mix 2 = .ok (.bipush 13, 2) := by decide +kernel
theorem dX10_mix_4 : decode cX10_mix 4 = .ok (.lshr, 1) := by decide +kernel
theorem dX10_mix_5 : decode cX10_mix 5 = .ok (.lxor, 1) := by decide +kernel
theorem dX10_mix_6 : decode cX10_mix 6 = .ok (.lload_n 0, 1) := by decide +kernel
theorem dX10_mix_7 : decode cX10_mix 7 = .ok (.bipush 26, 2) := by decide +kernel
theorem dX10_mix_9 : decode cX10_mix 9 = .ok (.lshr, 1) := by decide +kernel
theorem dX10_mix_10 : decode cX10_mix 10 = .ok (.lxor, 1) := by decide +kernel
theorem dX10_mix_11 : decode cX10_mix 11 = .ok (.lload_n 0, 1) := by decide +kernel
theorem dX10_mix_12 : decode cX10_mix 12 = .ok (.bipush 39, 2) := by decide +kernel
theorem dX10_mix_14 : decode cX10_mix 14 = .ok (.lshr, 1) := by decide +kernel
theorem dX10_mix_15 : decode cX10_mix 15 = .ok (.lxor, 1) := by decide +kernel
theorem dX10_mix_16 : decode cX10_mix 16 = .ok (.lreturn, 1) := by decide +kernel
theorem dX10_inAll_0 : decode cX10_inAll 0 = .ok (.lconst 0, 1) := by decide +kernel
theorem dX10_inAll_1 : decode cX10_inAll 1 = .ok (.lstore_n 3, 1) := by decide +kernel
theorem dX10_inAll_2 : decode cX10_inAll 2 = .ok (.iconst 0, 1) := by decide +kernel
theorem dX10_inAll_3 : decode cX10_inAll 3 = .ok (.istore 5, 2) := by decide +kernel
theorem dX10_inAll_5 : decode cX10_inAll 5 = .ok (.iload 5, 2) := by decide +kernel
theorem dX10_inAll_7 : decode cX10_inAll 7 = .ok (.aload_n 0, 1) := by decide +kernel
theorem dX10_inAll_8 : decode cX10_inAll 8 = .ok (.getfield 25, 3) := by decide +kernel
theorem dX10_inAll_11 : decode cX10_inAll 11 = .ok (.getfield 59, 3) := by decide +kernel
theorem dX10_inAll_14 : decode cX10_inAll 14 = .ok (.if_icmp .ge 19, 3) := by decide +kernel
theorem dX10_inAll_17 : decode cX10_inAll 17 = .ok (.lload_n 3, 1) := by decide +kernel
theorem dX10_inAll_18 : decode cX10_inAll 18 = .ok (.aload_n 0, 1) := by decide +kernel
theorem dX10_inAll_19 : decode cX10_inAll 19 = .ok (.lload_n 1, 1) := by decide +kernel
theorem dX10_inAll_20 : decode cX10_inAll 20 = .ok (.iload 5, 2) := by decide +kernel
theorem dX10_inAll_22 : decode cX10_inAll 22 = .ok (.invokevirtual 89, 3) := by decide +kernel
theorem dX10_inAll_25 : decode cX10_inAll 25 = .ok (.ladd, 1) := by decide +kernel
theorem dX10_inAll_26 : decode cX10_inAll 26 = .ok (.lstore_n 3, 1) := by decide +kernel
theorem dX10_inAll_27 : decode cX10_inAll 27 = .ok (.iinc 5 1, 3) := by decide +kernel
theorem dX10_inAll_30 : decode cX10_inAll 30 = .ok (.goto (-25), 3) := by decide +kernel
theorem dX10_inAll_33 : decode cX10_inAll 33 = .ok (.lload_n 3, 1) := by decide +kernel
theorem dX10_inAll_34 : decode cX10_inAll 34 = .ok (.lreturn, 1) := by decide +kernel
theorem dX10_lay_0 : decode cX10_lay 0 = .ok (.lload_n 1, 1) := by decide +kernel
theorem dX10_lay_1 : decode cX10_lay 1 = .ok (.aload_n 0, 1) := by decide +kernel
theorem dX10_lay_2 : decode cX10_lay 2 = .ok (.getfield 39, 3) := by decide +kernel
theorem dX10_lay_5 : decode cX10_lay 5 = .ok (.lcmp, 1) := by decide +kernel
theorem dX10_lay_6 : decode cX10_lay 6 = .ok (.ifCond .ne 4, 3) := by decide +kernel
theorem dX10_lay_9 : decode cX10_lay 9 = .ok (.return_, 1) := by decide +kernel
theorem dX10_lay_10 : decode cX10_lay 10 = .ok (.aload_n 0, 1) := by decide +kernel
theorem dX10_lay_11 : decode cX10_lay 11 = .ok (.lload_n 1, 1) := by decide +kernel
theorem dX10_lay_12 : decode cX10_lay 12 = .ok (.putfield 39, 3) := by decide +kernel
theorem dX10_lay_15 : decode cX10_lay 15 = .ok (.iconst 0, 1) := by decide +kernel
theorem dX10_lay_16 : decode cX10_lay 16 = .ok (.istore_n 3, 1) := by decide +kernel
theorem dX10_lay_17 : decode cX10_lay 17 = .ok (.iload_n 3, 1) := by decide +kernel
theorem dX10_lay_18 : decode cX10_lay 18 = .ok (.aload_n 0, 1) := by decide +kernel
theorem dX10_lay_19 : decode cX10_lay 19 = .ok (.getfield 18, 3) := by decide +kernel
theorem dX10_lay_22 : decode cX10_lay 22 = .ok (.arraylength, 1) := by decide +kernel
theorem dX10_lay_23 : decode cX10_lay 23 = .ok (.if_icmp .ge 16, 3) := by decide +kernel
theorem dX10_lay_26 : decode cX10_lay 26 = .ok (.aload_n 0, 1) := by decide +kernel
theorem dX10_lay_27 : decode cX10_lay 27 = .ok (.getfield 18, 3) := by decide +kernel
theorem dX10_lay_30 : decode cX10_lay 30 = .ok (.iload_n 3, 1) := by decide +kernel
theorem dX10_lay_31 : decode cX10_lay 31 = .ok (.iconst 0, 1) := by decide +kernel
theorem dX10_lay_32 : decode cX10_lay 32 = .ok (.iastore, 1) := by decide +kernel
theorem dX10_lay_33 : decode cX10_lay 33 = .ok (.iinc 3 1, 3) := by decide +kernel
theorem dX10_lay_36 : decode cX10_lay 36 = .ok (.goto (-19), 3) := by decide +kernel
theorem dX10_lay_39 : decode cX10_lay 39 = .ok (.aload_n 0, 1) := by decide +kernel
theorem dX10_lay_40 : decode cX10_lay 40 = .ok (.getfield 25, 3) := by decide +kernel
theorem dX10_lay_43 : decode cX10_lay 43 = .ok (.getfield 74, 3) := by decide +kernel
theorem dX10_lay_46 : decode cX10_lay 46 = .ok (.astore_n 3, 1) := by decide +kernel
theorem dX10_lay_47 : decode cX10_lay 47 = .ok (.iconst 0, 1) := by decide +kernel
theorem dX10_lay_48 : decode cX10_lay 48 = .ok (.istore 4, 2) := by decide +kernel
theorem dX10_lay_50 : decode cX10_lay 50 = .ok (.iload 4, 2) := by decide +kernel
theorem dX10_lay_52 : decode cX10_lay 52 = .ok (.aload_n 0, 1) := by decide +kernel
theorem dX10_lay_53 : decode cX10_lay 53 = .ok (.getfield 25, 3) := by decide +kernel
theorem dX10_lay_56 : decode cX10_lay 56 = .ok (.getfield 92, 3) := by decide +kernel
theorem dX10_lay_59 : decode cX10_lay 59 = .ok (.if_icmp .ge 68, 3) := by decide +kernel
theorem dX10_lay_62 : decode cX10_lay 62 = .ok (.lload_n 1, 1) := by decide +kernel
theorem dX10_lay_63 : decode cX10_lay 63 = .ok (.iload 4, 2) := by decide +kernel
theorem dX10_lay_65 : decode cX10_lay 65 = .ok (.lshr, 1) := by decide +kernel
theorem dX10_lay_66 : decode cX10_lay 66 = .ok (.lconst 1, 1) := by decide +kernel
theorem dX10_lay_67 : decode cX10_lay 67 = .ok (.land, 1) := by decide +kernel
theorem dX10_lay_68 : decode cX10_lay 68 = .ok (.lconst 0, 1) := by decide +kernel
theorem dX10_lay_69 : decode cX10_lay 69 = .ok (.lcmp, 1) := by decide +kernel
theorem dX10_lay_70 : decode cX10_lay 70 = .ok (.ifCond .eq 51, 3) := by decide +kernel
theorem dX10_lay_73 : decode cX10_lay 73 = .ok (.aload_n 0, 1) := by decide +kernel
theorem dX10_lay_74 : decode cX10_lay 74 = .ok (.getfield 18, 3) := by decide +kernel
theorem dX10_lay_77 : decode cX10_lay 77 = .ok (.aload_n 3, 1) := by decide +kernel
theorem dX10_lay_78 : decode cX10_lay 78 = .ok (.getfield 95, 3) := by decide +kernel
theorem dX10_lay_81 : decode cX10_lay 81 = .ok (.iload 4, 2) := by decide +kernel
theorem dX10_lay_83 : decode cX10_lay 83 = .ok (.iaload, 1) := by decide +kernel
theorem dX10_lay_84 : decode cX10_lay 84 = .ok (.dup2, 1) := by decide +kernel
theorem dX10_lay_85 : decode cX10_lay 85 = .ok (.iaload, 1) := by decide +kernel
theorem dX10_lay_86 : decode cX10_lay 86 = .ok (.iconst 1, 1) := by decide +kernel
theorem dX10_lay_87 : decode cX10_lay 87 = .ok (.aload_n 3, 1) := by decide +kernel
theorem dX10_lay_88 : decode cX10_lay 88 = .ok (.getfield 98, 3) := by decide +kernel
theorem dX10_lay_91 : decode cX10_lay 91 = .ok (.iload 4, 2) := by decide +kernel
theorem dX10_lay_93 : decode cX10_lay 93 = .ok (.iaload, 1) := by decide +kernel
theorem dX10_lay_94 : decode cX10_lay 94 = .ok (.ishl, 1) := by decide +kernel
theorem dX10_lay_95 : decode cX10_lay 95 = .ok (.ior, 1) := by decide +kernel
theorem dX10_lay_96 : decode cX10_lay 96 = .ok (.iastore, 1) := by decide +kernel
theorem dX10_lay_97 : decode cX10_lay 97 = .ok (.aload_n 0, 1) := by decide +kernel
theorem dX10_lay_98 : decode cX10_lay 98 = .ok (.getfield 18, 3) := by decide +kernel
theorem dX10_lay_101 : decode cX10_lay 101 = .ok (.aload_n 3, 1) := by decide +kernel
theorem dX10_lay_102 : decode cX10_lay 102 = .ok (.getfield 98, 3) := by decide +kernel
theorem dX10_lay_105 : decode cX10_lay 105 = .ok (.iload 4, 2) := by decide +kernel
theorem dX10_lay_107 : decode cX10_lay 107 = .ok (.iaload, 1) := by decide +kernel
theorem dX10_lay_108 : decode cX10_lay 108 = .ok (.dup2, 1) := by decide +kernel
theorem dX10_lay_109 : decode cX10_lay 109 = .ok (.iaload, 1) := by decide +kernel
theorem dX10_lay_110 : decode cX10_lay 110 = .ok (.iconst 1, 1) := by decide +kernel
theorem dX10_lay_111 : decode cX10_lay 111 = .ok (.aload_n 3, 1) := by decide +kernel
theorem dX10_lay_112 : decode cX10_lay 112 = .ok (.getfield 95, 3) := by decide +kernel
theorem dX10_lay_115 : decode cX10_lay 115 = .ok (.iload 4, 2) := by decide +kernel
theorem dX10_lay_117 : decode cX10_lay 117 = .ok (.iaload, 1) := by decide +kernel
theorem dX10_lay_118 : decode cX10_lay 118 = .ok (.ishl, 1) := by decide +kernel
theorem dX10_lay_119 : decode cX10_lay 119 = .ok (.ior, 1) := by decide +kernel
theorem dX10_lay_120 : decode cX10_lay 120 = .ok (.iastore, 1) := by decide +kernel
theorem dX10_lay_121 : decode cX10_lay 121 = .ok (.iinc 4 1, 3) := by decide +kernel
theorem dX10_lay_124 : decode cX10_lay 124 = .ok (.goto (-74), 3) := by decide +kernel
theorem dX10_lay_127 : decode cX10_lay 127 = .ok (.return_, 1) := by decide +kernel
theorem dX10_spread_0 : decode cX10_spread 0 = .ok (.aload_n 0, 1) := by decide +kernel
theorem dX10_spread_1 : decode cX10_spread 1 = .ok (.getfield 25, 3) := by decide +kernel
theorem dX10_spread_4 : decode cX10_spread 4 = .ok (.getfield 59, 3) := by decide +kernel
theorem dX10_spread_7 : decode cX10_spread 7 = .ok (.istore_n 2, 1) := by decide +kernel
theorem dX10_spread_8 : decode cX10_spread 8 = .ok (.iconst 0, 1) := by decide +kernel
theorem dX10_spread_9 : decode cX10_spread 9 = .ok (.istore_n 3, 1) := by decide +kernel
theorem dX10_spread_10 : decode cX10_spread 10 = .ok (.iload_n 3, 1) := by decide +kernel
theorem dX10_spread_11 : decode cX10_spread 11 = .ok (.iload_n 2, 1) := by decide +kernel
theorem dX10_spread_12 : decode cX10_spread 12 = .ok (.if_icmp .ge 25, 3) := by decide +kernel
theorem dX10_spread_15 : decode cX10_spread 15 = .ok (.aload_n 0, 1) := by decide +kernel
theorem dX10_spread_16 : decode cX10_spread 16 = .ok (.getfield 22, 3) := by decide +kernel
theorem dX10_spread_19 : decode cX10_spread 19 = .ok (.iload_n 3, 1) := by decide +kernel
theorem dX10_spread_20 : decode cX10_spread 20 = .ok (.iload_n 3, 1) := by decide +kernel
theorem dX10_spread_21 : decode cX10_spread 21 = .ok (.iload_n 1, 1) := by decide +kernel
theorem dX10_spread_22 : decode cX10_spread 22 = .ok (.if_icmp .ne 7, 3) := by decide +kernel
theorem dX10_spread_25 : decode cX10_spread 25 = .ok (.iconst 0, 1) := by decide +kernel
theorem dX10_spread_26 : decode cX10_spread 26 = .ok (.goto 4, 3) := by decide +kernel
theorem dX10_spread_29 : decode cX10_spread 29 = .ok (.iconst (-1), 1) := by decide +kernel
theorem dX10_spread_30 : decode cX10_spread 30 = .ok (.iastore, 1) := by decide +kernel
theorem dX10_spread_31 : decode cX10_spread 31 = .ok (.iinc 3 1, 3) := by decide +kernel
theorem dX10_spread_34 : decode cX10_spread 34 = .ok (.goto (-24), 3) := by decide +kernel
theorem dX10_spread_37 : decode cX10_spread 37 = .ok (.iconst 1, 1) := by decide +kernel
theorem dX10_spread_38 : decode cX10_spread 38 = .ok (.iload_n 1, 1) := by decide +kernel
theorem dX10_spread_39 : decode cX10_spread 39 = .ok (.ishl, 1) := by decide +kernel
theorem dX10_spread_40 : decode cX10_spread 40 = .ok (.istore_n 3, 1) := by decide +kernel
theorem dX10_spread_41 : decode cX10_spread 41 = .ok (.iload_n 3, 1) := by decide +kernel
theorem dX10_spread_42 : decode cX10_spread 42 = .ok (.istore 4, 2) := by decide +kernel
theorem dX10_spread_44 : decode cX10_spread 44 = .ok (.iconst 1, 1) := by decide +kernel
theorem dX10_spread_45 : decode cX10_spread 45 = .ok (.istore 5, 2) := by decide +kernel
theorem dX10_spread_47 : decode cX10_spread 47 = .ok (.iload 5, 2) := by decide +kernel
theorem dX10_spread_49 : decode cX10_spread 49 = .ok (.iload_n 2, 1) := by decide +kernel
theorem dX10_spread_50 : decode cX10_spread 50 = .ok (.if_icmp .ge 115, 3) := by decide +kernel
theorem dX10_spread_53 : decode cX10_spread 53 = .ok (.iload 4, 2) := by decide +kernel
theorem dX10_spread_55 : decode cX10_spread 55 = .ok (.ifCond .eq 110, 3) := by decide +kernel
theorem dX10_spread_58 : decode cX10_spread 58 = .ok (.iconst 0, 1) := by decide +kernel
theorem dX10_spread_59 : decode cX10_spread 59 = .ok (.istore 6, 2) := by decide +kernel
theorem dX10_spread_61 : decode cX10_spread 61 = .ok (.iconst 0, 1) := by decide +kernel
theorem dX10_spread_62 : decode cX10_spread 62 = .ok (.istore 7, 2) := by decide +kernel
theorem dX10_spread_64 : decode cX10_spread 64 = .ok (.iload 7, 2) := by decide +kernel
theorem dX10_spread_66 : decode cX10_spread 66 = .ok (.iload_n 2, 1) := by decide +kernel
theorem dX10_spread_67 : decode cX10_spread 67 = .ok (.if_icmp .ge 35, 3) := by decide +kernel
theorem dX10_spread_70 : decode cX10_spread 70 = .ok (.iload 6, 2) := by decide +kernel
theorem dX10_spread_72 : decode cX10_spread 72 = .ok (.iload 4, 2) := by decide +kernel
theorem dX10_spread_74 : decode cX10_spread 74 = .ok (.iload 7, 2) := by decide +kernel
theorem dX10_spread_76 : decode cX10_spread 76 = .ok (.ishr, 1) := by decide +kernel
theorem dX10_spread_77 : decode cX10_spread 77 = .ok (.iconst 1, 1) := by decide +kernel
theorem dX10_spread_78 : decode cX10_spread 78 = .ok (.iand, 1) := by decide +kernel
theorem dX10_spread_79 : decode cX10_spread 79 = .ok (.ifCond .eq 13, 3) := by decide +kernel
theorem dX10_spread_82 : decode cX10_spread 82 = .ok (.aload_n 0, 1) := by decide +kernel
theorem dX10_spread_83 : decode cX10_spread 83 = .ok (.getfield 18, 3) := by decide +kernel
theorem dX10_spread_86 : decode cX10_spread 86 = .ok (.iload 7, 2) := by decide +kernel
theorem dX10_spread_88 : decode cX10_spread 88 = .ok (.iaload, 1) := by decide +kernel
theorem dX10_spread_89 : decode cX10_spread 89 = .ok (.goto 4, 3) := by decide +kernel
theorem dX10_spread_92 : decode cX10_spread 92 = .ok (.iconst 0, 1) := by decide +kernel
theorem dX10_spread_93 : decode cX10_spread 93 = .ok (.ior, 1) := by decide +kernel
theorem dX10_spread_94 : decode cX10_spread 94 = .ok (.istore 6, 2) := by decide +kernel
theorem dX10_spread_96 : decode cX10_spread 96 = .ok (.iinc 7 1, 3) := by decide +kernel
theorem dX10_spread_99 : decode cX10_spread 99 = .ok (.goto (-35), 3) := by decide +kernel
theorem dX10_spread_102 : decode cX10_spread 102 = .ok (.iload 6, 2) := by decide +kernel
theorem dX10_spread_104 : decode cX10_spread 104 = .ok (.iload_n 3, 1) := by decide +kernel
theorem dX10_spread_105 : decode cX10_spread 105 = .ok (.iconst (-1), 1) := by decide +kernel
theorem dX10_spread_106 : decode cX10_spread 106 = .ok (.ixor, 1) := by decide +kernel
theorem dX10_spread_107 : decode cX10_spread 107 = .ok (.iand, 1) := by decide +kernel
theorem dX10_spread_108 : decode cX10_spread 108 = .ok (.istore 4, 2) := by decide +kernel
theorem dX10_spread_110 : decode cX10_spread 110 = .ok (.iload_n 3, 1) := by decide +kernel
theorem dX10_spread_111 : decode cX10_spread 111 = .ok (.iload 4, 2) := by decide +kernel
theorem dX10_spread_113 : decode cX10_spread 113 = .ok (.ior, 1) := by decide +kernel
theorem dX10_spread_114 : decode cX10_spread 114 = .ok (.istore_n 3, 1) := by decide +kernel
theorem dX10_spread_115 : decode cX10_spread 115 = .ok (.iconst 0, 1) := by decide +kernel
theorem dX10_spread_116 : decode cX10_spread 116 = .ok (.istore 7, 2) := by decide +kernel
theorem dX10_spread_118 : decode cX10_spread 118 = .ok (.iload 7, 2) := by decide +kernel
theorem dX10_spread_120 : decode cX10_spread 120 = .ok (.iload_n 2, 1) := by decide +kernel
theorem dX10_spread_121 : decode cX10_spread 121 = .ok (.if_icmp .ge 38, 3) := by decide +kernel
theorem dX10_spread_124 : decode cX10_spread 124 = .ok (.aload_n 0, 1) := by decide +kernel
theorem dX10_spread_125 : decode cX10_spread 125 = .ok (.getfield 22, 3) := by decide +kernel
theorem dX10_spread_128 : decode cX10_spread 128 = .ok (.iload 7, 2) := by decide +kernel
theorem dX10_spread_130 : decode cX10_spread 130 = .ok (.iload 4, 2) := by decide +kernel
theorem dX10_spread_132 : decode cX10_spread 132 = .ok (.iload 7, 2) := by decide +kernel
theorem dX10_spread_134 : decode cX10_spread 134 = .ok (.ishr, 1) := by decide +kernel
theorem dX10_spread_135 : decode cX10_spread 135 = .ok (.iconst 1, 1) := by decide +kernel
theorem dX10_spread_136 : decode cX10_spread 136 = .ok (.iand, 1) := by decide +kernel
theorem dX10_spread_137 : decode cX10_spread 137 = .ok (.ifCond .eq 8, 3) := by decide +kernel
theorem dX10_spread_140 : decode cX10_spread 140 = .ok (.iload 5, 2) := by decide +kernel
theorem dX10_spread_142 : decode cX10_spread 142 = .ok (.goto 10, 3) := by decide +kernel
theorem dX10_spread_145 : decode cX10_spread 145 = .ok (.aload_n 0, 1) := by decide +kernel
theorem dX10_spread_146 : decode cX10_spread 146 = .ok (.getfield 22, 3) := by decide +kernel
theorem dX10_spread_149 : decode cX10_spread 149 = .ok (.iload 7, 2) := by decide +kernel
theorem dX10_spread_151 : decode cX10_spread 151 = .ok (.iaload, 1) := by decide +kernel
theorem dX10_spread_152 : decode cX10_spread 152 = .ok (.iastore, 1) := by decide +kernel
theorem dX10_spread_153 : decode cX10_spread 153 = .ok (.iinc 7 1, 3) := by decide +kernel
theorem dX10_spread_156 : decode cX10_spread 156 = .ok (.goto (-38), 3) := by decide +kernel
theorem dX10_spread_159 : decode cX10_spread 159 = .ok (.iinc 5 1, 3) := by decide +kernel
theorem dX10_spread_162 : decode cX10_spread 162 = .ok (.goto (-115), 3) := by decide +kernel
theorem dX10_spread_165 : decode cX10_spread 165 = .ok (.return_, 1) := by decide +kernel
theorem dX10_reckon_0 : decode cX10_reckon 0 = .ok (.aload_n 0, 1) := by decide +kernel
theorem dX10_reckon_1 : decode cX10_reckon 1 = .ok (.lload_n 1, 1) := by decide +kernel
theorem dX10_reckon_2 : decode cX10_reckon 2 = .ok (.invokevirtual 101, 3) := by decide +kernel
theorem dX10_reckon_5 : decode cX10_reckon 5 = .ok (.aload_n 0, 1) := by decide +kernel
theorem dX10_reckon_6 : decode cX10_reckon 6 = .ok (.iload_n 3, 1) := by decide +kernel
theorem dX10_reckon_7 : decode cX10_reckon 7 = .ok (.invokevirtual 105, 3) := by decide +kernel
theorem dX10_reckon_10 : decode cX10_reckon 10 = .ok (.aload_n 0, 1) := by decide +kernel
theorem dX10_reckon_11 : decode cX10_reckon 11 = .ok (.getfield 29, 3) := by decide +kernel
theorem dX10_reckon_14 : decode cX10_reckon 14 = .ok (.iload_n 3, 1) := by decide +kernel
theorem dX10_reckon_15 : decode cX10_reckon 15 = .ok (.putfield 109, 3) := by decide +kernel
theorem dX10_reckon_18 : decode cX10_reckon 18 = .ok (.aload_n 0, 1) := by decide +kernel
theorem dX10_reckon_19 : decode cX10_reckon 19 = .ok (.getfield 29, 3) := by decide +kernel
theorem dX10_reckon_22 : decode cX10_reckon 22 = .ok (.getfield 114, 3) := by decide +kernel
theorem dX10_reckon_25 : decode cX10_reckon 25 = .ok (.iconst 2, 1) := by decide +kernel
theorem dX10_reckon_26 : decode cX10_reckon 26 = .ok (.aload_n 0, 1) := by decide +kernel
theorem dX10_reckon_27 : decode cX10_reckon 27 = .ok (.getfield 18, 3) := by decide +kernel
theorem dX10_reckon_30 : decode cX10_reckon 30 = .ok (.iload_n 3, 1) := by decide +kernel
theorem dX10_reckon_31 : decode cX10_reckon 31 = .ok (.iaload, 1) := by decide +kernel
theorem dX10_reckon_32 : decode cX10_reckon 32 = .ok (.invokestatic 117, 3) := by decide +kernel
theorem dX10_reckon_35 : decode cX10_reckon 35 = .ok (.iastore, 1) := by decide +kernel
theorem dX10_reckon_36 : decode cX10_reckon 36 = .ok (.aload_n 0, 1) := by decide +kernel
theorem dX10_reckon_37 : decode cX10_reckon 37 = .ok (.getfield 29, 3) := by decide +kernel
theorem dX10_reckon_40 : decode cX10_reckon 40 = .ok (.getfield 114, 3) := by decide +kernel
theorem dX10_reckon_43 : decode cX10_reckon 43 = .ok (.iconst 4, 1) := by decide +kernel
theorem dX10_reckon_44 : decode cX10_reckon 44 = .ok (.lload_n 1, 1) := by decide +kernel
theorem dX10_reckon_45 : decode cX10_reckon 45 = .ok (.invokestatic 83, 3) := by decide +kernel
theorem dX10_reckon_48 : decode cX10_reckon 48 = .ok (.iastore, 1) := by decide +kernel
theorem dX10_reckon_49 : decode cX10_reckon 49 = .ok (.lconst 0, 1) := by decide +kernel
theorem dX10_reckon_50 : decode cX10_reckon 50 = .ok (.lstore 4, 2) := by decide +kernel
theorem dX10_reckon_52 : decode cX10_reckon 52 = .ok (.iconst 0, 1) := by decide +kernel
theorem dX10_reckon_53 : decode cX10_reckon 53 = .ok (.istore 6, 2) := by decide +kernel
theorem dX10_reckon_55 : decode cX10_reckon 55 = .ok (.iload 6, 2) := by decide +kernel
theorem dX10_reckon_57 : decode cX10_reckon 57 = .ok (.aload_n 0, 1) := by decide +kernel
theorem dX10_reckon_58 : decode cX10_reckon 58 = .ok (.getfield 25, 3) := by decide +kernel
theorem dX10_reckon_61 : decode cX10_reckon 61 = .ok (.getfield 59, 3) := by decide +kernel
theorem dX10_reckon_64 : decode cX10_reckon 64 = .ok (.if_icmp .ge 127, 3) := by decide +kernel
theorem dX10_reckon_67 : decode cX10_reckon 67 = .ok (.aload_n 0, 1) := by decide +kernel
theorem dX10_reckon_68 : decode cX10_reckon 68 = .ok (.getfield 22, 3) := by decide +kernel
theorem dX10_reckon_71 : decode cX10_reckon 71 = .ok (.iload 6, 2) := by decide +kernel
theorem dX10_reckon_73 : decode cX10_reckon 73 = .ok (.iaload, 1) := by decide +kernel
theorem dX10_reckon_74 : decode cX10_reckon 74 = .ok (.ifCond .le 111, 3) := by decide +kernel
theorem dX10_reckon_77 : decode cX10_reckon 77 = .ok (.aload_n 0, 1) := by decide +kernel
theorem dX10_reckon_78 : decode cX10_reckon 78 = .ok (.getfield 29, 3) := by decide +kernel
theorem dX10_reckon_81 : decode cX10_reckon 81 = .ok (.getfield 114, 3) := by decide +kernel
theorem dX10_reckon_84 : decode cX10_reckon 84 = .ok (.iconst 0, 1) := by decide +kernel
theorem dX10_reckon_85 : decode cX10_reckon 85 = .ok (.aload_n 0, 1) := by decide +kernel
theorem dX10_reckon_86 : decode cX10_reckon 86 = .ok (.getfield 22, 3) := by decide +kernel
theorem dX10_reckon_89 : decode cX10_reckon 89 = .ok (.iload 6, 2) := by decide +kernel
theorem dX10_reckon_91 : decode cX10_reckon 91 = .ok (.iaload, 1) := by decide +kernel
theorem dX10_reckon_92 : decode cX10_reckon 92 = .ok (.iastore, 1) := by decide +kernel
theorem dX10_reckon_93 : decode cX10_reckon 93 = .ok (.aload_n 0, 1) := by decide +kernel
theorem dX10_reckon_94 : decode cX10_reckon 94 = .ok (.getfield 29, 3) := by decide +kernel
theorem dX10_reckon_97 : decode cX10_reckon 97 = .ok (.getfield 114, 3) := by decide +kernel
theorem dX10_reckon_100 : decode cX10_reckon 100 = .ok (.iconst 1, 1) := by decide +kernel
theorem dX10_reckon_101 : decode cX10_reckon 101 = .ok (.aload_n 0, 1) := by decide +kernel
theorem dX10_reckon_102 : decode cX10_reckon 102 = .ok (.getfield 25, 3) := by decide +kernel
theorem dX10_reckon_105 : decode cX10_reckon 105 = .ok (.getfield 122, 3) := by decide +kernel
theorem dX10_reckon_108 : decode cX10_reckon 108 = .ok (.iload_n 3, 1) := by decide +kernel
theorem dX10_reckon_109 : decode cX10_reckon 109 = .ok (.iaload, 1) := by decide +kernel
theorem dX10_reckon_110 : decode cX10_reckon 110 = .ok (.aload_n 0, 1) := by decide +kernel
theorem dX10_reckon_111 : decode cX10_reckon 111 = .ok (.getfield 25, 3) := by decide +kernel
theorem dX10_reckon_114 : decode cX10_reckon 114 = .ok (.getfield 122, 3) := by decide +kernel
theorem dX10_reckon_117 : decode cX10_reckon 117 = .ok (.iload 6, 2) := by decide +kernel
theorem dX10_reckon_119 : decode cX10_reckon 119 = .ok (.iaload, 1) := by decide +kernel
theorem dX10_reckon_120 : decode cX10_reckon 120 = .ok (.isub, 1) := by decide +kernel
theorem dX10_reckon_121 : decode cX10_reckon 121 = .ok (.invokestatic 125, 3) := by decide +kernel
theorem dX10_reckon_124 : decode cX10_reckon 124 = .ok (.iastore, 1) := by decide +kernel
theorem dX10_reckon_125 : decode cX10_reckon 125 = .ok (.aload_n 0, 1) := by decide +kernel
theorem dX10_reckon_126 : decode cX10_reckon 126 = .ok (.getfield 29, 3) := by decide +kernel
theorem dX10_reckon_129 : decode cX10_reckon 129 = .ok (.getfield 114, 3) := by decide +kernel
theorem dX10_reckon_132 : decode cX10_reckon 132 = .ok (.iconst 3, 1) := by decide +kernel
theorem dX10_reckon_133 : decode cX10_reckon 133 = .ok (.aload_n 0, 1) := by decide +kernel
theorem dX10_reckon_134 : decode cX10_reckon 134 = .ok (.getfield 18, 3) := by decide +kernel
theorem dX10_reckon_137 : decode cX10_reckon 137 = .ok (.iload 6, 2) := by decide +kernel
theorem dX10_reckon_139 : decode cX10_reckon 139 = .ok (.iaload, 1) := by decide +kernel
theorem dX10_reckon_140 : decode cX10_reckon 140 = .ok (.invokestatic 117, 3) := by decide +kernel
theorem dX10_reckon_143 : decode cX10_reckon 143 = .ok (.iastore, 1) := by decide +kernel
theorem dX10_reckon_144 : decode cX10_reckon 144 = .ok (.lload 4, 2) := by decide +kernel
theorem dX10_reckon_146 : decode cX10_reckon 146 = .ok (.aload_n 0, 1) := by decide +kernel
theorem dX10_reckon_147 : decode cX10_reckon 147 = .ok (.getfield 29, 3) := by decide +kernel
theorem dX10_reckon_150 : decode cX10_reckon 150 = .ok (.iconst 1, 1) := by decide +kernel
theorem dX10_reckon_151 : decode cX10_reckon 151 = .ok (.invokevirtual 130, 3) := by decide +kernel
theorem dX10_reckon_154 : decode cX10_reckon 154 = .ok (.ladd, 1) := by decide +kernel
theorem dX10_reckon_155 : decode cX10_reckon 155 = .ok (.lstore 4, 2) := by decide +kernel
theorem dX10_reckon_157 : decode cX10_reckon 157 = .ok (.lload 4, 2) := by decide +kernel
theorem dX10_reckon_159 : decode cX10_reckon 159 = .ok (.aload_n 0, 1) := by decide +kernel
theorem dX10_reckon_160 : decode cX10_reckon 160 = .ok (.getfield 22, 3) := by decide +kernel
theorem dX10_reckon_163 : decode cX10_reckon 163 = .ok (.iload 6, 2) := by decide +kernel
theorem dX10_reckon_165 : decode cX10_reckon 165 = .ok (.iaload, 1) := by decide +kernel
theorem dX10_reckon_166 : decode cX10_reckon 166 = .ok (.iconst 1, 1) := by decide +kernel
theorem dX10_reckon_167 : decode cX10_reckon 167 = .ok (.if_icmp .ne 14, 3) := by decide +kernel
theorem dX10_reckon_170 : decode cX10_reckon 170 = .ok (.aload_n 0, 1) := by decide +kernel
theorem dX10_reckon_171 : decode cX10_reckon 171 = .ok (.getfield 29, 3) := by decide +kernel
theorem dX10_reckon_174 : decode cX10_reckon 174 = .ok (.iconst 0, 1) := by decide +kernel
theorem dX10_reckon_175 : decode cX10_reckon 175 = .ok (.invokevirtual 130, 3) := by decide +kernel
theorem dX10_reckon_178 : decode cX10_reckon 178 = .ok (.goto 4, 3) := by decide +kernel
theorem dX10_reckon_181 : decode cX10_reckon 181 = .ok (.lconst 0, 1) := by decide +kernel
theorem dX10_reckon_182 : decode cX10_reckon 182 = .ok (.lsub, 1) := by decide +kernel
theorem dX10_reckon_183 : decode cX10_reckon 183 = .ok (.lstore 4, 2) := by decide +kernel
theorem dX10_reckon_185 : decode cX10_reckon 185 = .ok (.iinc 6 1, 3) := by decide +kernel
theorem dX10_reckon_188 : decode cX10_reckon 188 = .ok (.goto (-133), 3) := by decide +kernel
theorem dX10_reckon_191 : decode cX10_reckon 191 = .ok (.lload 4, 2) := by decide +kernel
theorem dX10_reckon_193 : decode cX10_reckon 193 = .ok (.lreturn, 1) := by decide +kernel
theorem dX11_init_0 : decode cX11_init 0 = .ok (.aload_n 0, 1) := by decide +kernel
theorem dX11_init_1 : decode cX11_init 1 = .ok (.invokespecial 1, 3) := by decide +kernel
theorem dX11_init_4 : decode cX11_init 4 = .ok (.aload_n 0, 1) := by decide +kernel
theorem dX11_init_5 : decode cX11_init 5 = .ok (.new 7, 3) := by decide +kernel
theorem dX11_init_8 : decode cX11_init 8 = .ok (.dup, 1) := by decide +kernel
theorem dX11_init_9 : decode cX11_init 9 = .ok (.invokespecial 9, 3) := by decide +kernel
theorem dX11_init_12 : decode cX11_init 12 = .ok (.putfield 10, 3) := by decide +kernel
theorem dX11_init_15 : decode cX11_init 15 = .ok (.aload_n 0, 1) := by decide +kernel
theorem dX11_init_16 : decode cX11_init 16 = .ok (.new 16, 3) := by decide +kernel
theorem dX11_init_19 : decode cX11_init 19 = .ok (.dup, 1) := by decide +kernel
theorem dX11_init_20 : decode cX11_init 20 = .ok (.invokespecial 18, 3) := by decide +kernel
theorem dX11_init_23 : decode cX11_init 23 = .ok (.putfield 19, 3) := by decide +kernel
theorem dX11_init_26 : decode cX11_init 26 = .ok (.aload_n 0, 1) := by decide +kernel
theorem dX11_init_27 : decode cX11_init 27 = .ok (.new 23, 3) := by decide +kernel
theorem dX11_init_30 : decode cX11_init 30 = .ok (.dup, 1) := by decide +kernel
theorem dX11_init_31 : decode cX11_init 31 = .ok (.aload_n 0, 1) := by decide +kernel
theorem dX11_init_32 : decode cX11_init 32 = .ok (.getfield 19, 3) := by decide +kernel
theorem dX11_init_35 : decode cX11_init 35 = .ok (.invokespecial 25, 3) := by decide +kernel
theorem dX11_init_38 : decode cX11_init 38 = .ok (.putfield 28, 3) := by decide +kernel
theorem dX11_init_41 : decode cX11_init 41 = .ok (.aload_n 0, 1) := by decide +kernel
theorem dX11_init_42 : decode cX11_init 42 = .ok (.new 32, 3) := by decide +kernel
theorem dX11_init_45 : decode cX11_init 45 = .ok (.dup, 1) := by decide +kernel
theorem dX11_init_46 : decode cX11_init 46 = .ok (.invokespecial 34, 3) := by decide +kernel
theorem dX11_init_49 : decode cX11_init 49 = .ok (.putfield 35, 3) := by decide +kernel
theorem dX11_init_52 : decode cX11_init 52 = .ok (.aload_n 0, 1) := by decide +kernel
theorem dX11_init_53 : decode cX11_init 53 = .ok (.new 39, 3) := by decide +kernel
theorem dX11_init_56 : decode cX11_init 56 = .ok (.dup, 1) := by decide +kernel
theorem dX11_init_57 : decode cX11_init 57 = .ok (.aload_n 0, 1) := by decide +kernel
theorem dX11_init_58 : decode cX11_init 58 = .ok (.getfield 10, 3) := by decide +kernel
theorem dX11_init_61 : decode cX11_init 61 = .ok (.new 23, 3) := by decide +kernel
theorem dX11_init_64 : decode cX11_init 64 = .ok (.dup, 1) := by decide +kernel
theorem dX11_init_65 : decode cX11_init 65 = .ok (.aload_n 0, 1) := by decide +kernel
theorem dX11_init_66 : decode cX11_init 66 = .ok (.getfield 19, 3) := by decide +kernel
theorem dX11_init_69 : decode cX11_init 69 = .ok (.invokespecial 25, 3) := by decide +kernel
theorem dX11_init_72 : decode cX11_init 72 = .ok (.new 32, 3) := by decide +kernel
theorem dX11_init_75 : decode cX11_init 75 = .ok (.dup, 1) := by decide +kernel
theorem dX11_init_76 : decode cX11_init 76 = .ok (.invokespecial 34, 3) := by decide +kernel
theorem dX11_init_79 : decode cX11_init 79 = .ok (.invokespecial 41, 3) := by decide +kernel
theorem dX11_init_82 : decode cX11_init 82 = .ok (.putfield 44, 3) := by decide +kernel
theorem dX11_init_85 : decode cX11_init 85 = .ok (.aload_n 0, 1) := by decide +kernel
theorem dX11_init_86 : decode cX11_init 86 = .ok (.new 48, 3) := by decide +kernel
theorem dX11_init_89 : decode cX11_init 89 = .ok (.dup, 1) := by decide +kernel
theorem dX11_init_90 : decode cX11_init 90 = .ok (.aload_n 0, 1) := by decide +kernel
theorem dX11_init_91 : decode cX11_init 91 = .ok (.getfield 28, 3) := by decide +kernel
theorem dX11_init_94 : decode cX11_init 94 = .ok (.aload_n 0, 1) := by decide +kernel
theorem dX11_init_95 : decode cX11_init 95 = .ok (.getfield 35, 3) := by decide +kernel
theorem dX11_init_98 : decode cX11_init 98 = .ok (.invokespecial 50, 3) := by decide +kernel
theorem dX11_init_101 : decode cX11_init 101 = .ok (.putfield 53, 3) := by decide +kernel
theorem dX11_init_104 : decode cX11_init 104 = .ok (.aload_n 0, 1) := by decide +kernel
theorem dX11_init_105 : decode cX11_init 105 = .ok (.new 57, 3) := by decide +kernel
theorem dX11_init_108 : decode cX11_init 108 = .ok (.dup, 1) := by decide +kernel
theorem dX11_init_109 : decode cX11_init 109 = .ok (.aload_n 0, 1) := by decide +kernel
theorem dX11_init_110 : decode cX11_init 110 = .ok (.getfield 28, 3) := by decide +kernel
theorem dX11_init_113 : decode cX11_init 113 = .ok (.aload_n 0, 1) := by decide +kernel
theorem dX11_init_114 : decode cX11_init 114 = .ok (.getfield 53, 3) := by decide +kernel
theorem dX11_init_117 : decode cX11_init 117 = .ok (.invokespecial 59, 3) := by decide +kernel
theorem dX11_init_120 : decode cX11_init 120 = .ok (.putfield 62, 3) := by decide +kernel
theorem dX11_init_123 : decode cX11_init 123 = .ok (.aload_n 0, 1) := by decide +kernel
theorem dX11_init_124 : decode cX11_init 124 = .ok (.new 66, 3) := by decide +kernel
theorem dX11_init_127 : decode cX11_init 127 = .ok (.dup, 1) := by decide +kernel
theorem dX11_init_128 : decode cX11_init 128 = .ok (.aload_n 0, 1) := by decide +kernel
theorem dX11_init_129 : decode cX11_init 129 = .ok (.getfield 28, 3) := by decide +kernel
theorem dX11_init_132 : decode cX11_init 132 = .ok (.aload_n 0, 1) := by decide +kernel
theorem dX11_init_133 : decode cX11_init 133 = .ok (.getfield 62, 3) := by decide +kernel
theorem dX11_init_136 : decode cX11_init 136 = .ok (.invokespecial 68, 3) := by decide +kernel
theorem dX11_init_139 : decode cX11_init 139 = .ok (.putfield 71, 3) := by decide +kernel
theorem dX11_init_142 : decode cX11_init 142 = .ok (.aload_n 0, 1) := by decide +kernel
theorem dX11_init_143 : decode cX11_init 143 = .ok (.new 75, 3) := by decide +kernel
theorem dX11_init_146 : decode cX11_init 146 = .ok (.dup, 1) := by decide +kernel
theorem dX11_init_147 : decode cX11_init 147 = .ok (.invokespecial 77, 3) := by decide +kernel
theorem dX11_init_150 : decode cX11_init 150 = .ok (.putfield 78, 3) := by decide +kernel
theorem dX11_init_153 : decode cX11_init 153 = .ok (.aload_n 0, 1) := by decide +kernel
theorem dX11_init_154 : decode cX11_init 154 = .ok (.new 82, 3) := by decide +kernel
theorem dX11_init_157 : decode cX11_init 157 = .ok (.dup, 1) := by decide +kernel
theorem dX11_init_158 : decode cX11_init 158 = .ok (.sipush 1024, 3) := by decide +kernel
theorem dX11_init_161 : decode cX11_init 161 = .ok (.invokespecial 84, 3) := by decide +kernel
theorem dX11_init_164 : decode cX11_init 164 = .ok (.putfield 87, 3) := by decide +kernel
theorem dX11_init_167 : decode cX11_init 167 = .ok (.aload_n 0, 1) := by decide +kernel
theorem dX11_init_168 : decode cX11_init 168 = .ok (.new 82, 3) := by decide +kernel
theorem dX11_init_171 : decode cX11_init 171 = .ok (.dup, 1) := by decide +kernel
theorem dX11_init_172 : decode cX11_init 172 = .ok (.bipush 120, 2) := by decide +kernel
theorem dX11_init_174 : decode cX11_init 174 = .ok (.invokespecial 84, 3) := by decide +kernel
theorem dX11_init_177 : decode cX11_init 177 = .ok (.putfield 91, 3) := by decide +kernel
theorem dX11_init_180 : decode cX11_init 180 = .ok (.aload_n 0, 1) := by decide +kernel
theorem dX11_init_181 : decode cX11_init 181 = .ok (.sipush 1024, 3) := by decide +kernel
theorem dX11_init_184 : decode cX11_init 184 = .ok (.newarray .int, 2) := by decide +kernel
theorem dX11_init_186 : decode cX11_init 186 = .ok (.putfield 94, 3) := by decide +kernel
theorem dX11_init_189 : decode cX11_init 189 = .ok (.aload_n 0, 1) := by decide +kernel
theorem dX11_init_190 : decode cX11_init 190 = .ok (.bipush 10, 2) := by decide +kernel
theorem dX11_init_192 : decode cX11_init 192 = .ok (.newarray .int, 2) := by decide +kernel
theorem dX11_init_194 : decode cX11_init 194 = .ok (.putfield 98, 3) := by decide +kernel
theorem dX11_init_197 : decode cX11_init 197 = .ok (.aload_n 0, 1) := by decide +kernel
theorem dX11_init_198 : decode cX11_init 198 = .ok (.iconst 3, 1) := by decide +kernel
theorem dX11_init_199 : decode cX11_init 199 = .ok (.newarray .long, 2) := by decide +kernel
theorem dX11_init_201 : decode cX11_init 201 = .ok (.putfield 101, 3) := by decide +kernel
theorem dX11_init_204 : decode cX11_init 204 = .ok (.aload_n 0, 1) := by decide +kernel
theorem dX11_init_205 : decode cX11_init 205 = .ok (.iconst 2, 1) := by decide +kernel
theorem dX11_init_206 : decode cX11_init 206 = .ok (.newarray .long, 2) := by decide +kernel
theorem dX11_init_208 : decode cX11_init 208 = .ok (.putfield 105, 3) := by decide +kernel
theorem dX11_init_211 : decode cX11_init 211 = .ok (.aload_n 0, 1) := by decide +kernel
theorem dX11_init_212 : decode cX11_init 212 = .ok (.getfield 98, 3) := by decide +kernel
theorem dX11_init_215 : decode cX11_init 215 = .ok (.iconst (-1), 1) := by decide +kernel
theorem dX11_init_216 : decode cX11_init 216 = .ok (.invokestatic 108, 3) := by decide +kernel
theorem dX11_init_219 : decode cX11_init 219 = .ok (.aload_n 0, 1) := by decide +kernel
theorem dX11_init_220 : decode cX11_init 220 = .ok (.invokevirtual 114, 3) := by decide +kernel
theorem dX11_init_223 : decode cX11_init 223 = .ok (.return_, 1) := by decide +kernel
theorem dX11_feed_0 : decode cX11_feed 0 = .ok (.aload_n 0, 1) := by decide +kernel
theorem dX11_feed_1 : decode cX11_feed 1 = .ok (.getfield 10, 3) := by decide +kernel
theorem dX11_feed_4 : decode cX11_feed 4 = .ok (.getfield 117, 3) := by decide +kernel
theorem dX11_feed_7 : decode cX11_feed 7 = .ok (.sipush 780, 3) := by decide +kernel
theorem dX11_feed_10 : decode cX11_feed 10 = .ok (.if_icmp .le 5, 3) := by decide +kernel
theorem dX11_feed_13 : decode cX11_feed 13 = .ok (.iconst (-1), 1) := by decide +kernel
theorem dX11_feed_14 : decode cX11_feed 14 = .ok (.ireturn, 1) := by decide +kernel
theorem dX11_feed_15 : decode cX11_feed 15 = .ok (.aload_n 0, 1) := by decide +kernel
theorem dX11_feed_16 : decode cX11_feed 16 = .ok (.getfield 10, 3) := by decide +kernel
theorem dX11_feed_19 : decode cX11_feed 19 = .ok (.iload_n 1, 1) := by decide +kernel
theorem dX11_feed_20 : decode cX11_feed 20 = .ok (.invokevirtual 121, 3) := by decide +kernel
theorem dX11_feed_23 : decode cX11_feed 23 = .ok (.aload_n 0, 1) := by decide +kernel
theorem dX11_feed_24 : decode cX11_feed 24 = .ok (.getfield 10, 3) := by decide +kernel
theorem dX11_feed_27 : decode cX11_feed 27 = .ok (.iload_n 2, 1) := by decide +kernel
theorem dX11_feed_28 : decode cX11_feed 28 = .ok (.invokevirtual 121, 3) := by decide +kernel
theorem dX11_feed_31 : decode cX11_feed 31 = .ok (.aload_n 0, 1) := by decide +kernel
theorem dX11_feed_32 : decode cX11_feed 32 = .ok (.getfield 10, 3) := by decide +kernel
theorem dX11_feed_35 : decode cX11_feed 35 = .ok (.iload_n 3, 1) := by decide +kernel
theorem dX11_feed_36 : decode cX11_feed 36 = .ok (.invokevirtual 121, 3) := by decide +kernel
theorem dX11_feed_39 : decode cX11_feed 39 = .ok (.aload_n 0, 1) := by decide +kernel
theorem dX11_feed_40 : decode cX11_feed 40 = .ok (.getfield 10, 3) := by decide +kernel
theorem dX11_feed_43 : decode cX11_feed 43 = .ok (.iload 4, 2) := by decide +kernel
theorem dX11_feed_45 : decode cX11_feed 45 = .ok (.invokevirtual 121, 3) := by decide +kernel
theorem dX11_feed_48 : decode cX11_feed 48 = .ok (.aload_n 0, 1) := by decide +kernel
theorem dX11_feed_49 : decode cX11_feed 49 = .ok (.getfield 10, 3) := by decide +kernel
theorem dX11_feed_52 : decode cX11_feed 52 = .ok (.iload 5, 2) := by decide +kernel
theorem dX11_feed_54 : decode cX11_feed 54 = .ok (.invokevirtual 121, 3) := by decide +kernel
theorem dX11_feed_57 : decode cX11_feed 57 = .ok (.aload_n 0, 1) := by decide +kernel
theorem dX11_feed_58 : decode cX11_feed 58 = .ok (.getfield 10, 3) := by decide +kernel
theorem dX11_feed_61 : decode cX11_feed 61 = .ok (.getfield 117, 3) := by decide +kernel
theorem dX11_feed_64 : decode cX11_feed 64 = .ok (.ireturn, 1) := by decide +kernel
theorem dX11_end_0 : decode cX11_end 0 = .ok (.iload_n 1, 1) := by decide +kernel
theorem dX11_end_1 : decode cX11_end 1 = .ok (.ifCond .lt 14, 3) := by decide +kernel
theorem dX11_end_4 : decode cX11_end 4 = .ok (.iload_n 1, 1) := by decide +kernel
theorem dX11_end_5 : decode cX11_end 5 = .ok (.aload_n 0, 1) := by decide +kernel
theorem dX11_end_6 : decode cX11_end 6 = .ok (.getfield 10, 3) := by decide +kernel
theorem dX11_end_9 : decode cX11_end 9 = .ok (.getfield 117, 3) := by decide +kernel
theorem dX11_end_12 : decode cX11_end 12 = .ok (.if_icmp .le 5, 3) := by decide +kernel
theorem dX11_end_15 : decode cX11_end 15 = .ok (.iconst 0, 1) := by decide +kernel
theorem dX11_end_16 : decode cX11_end 16 = .ok (.ireturn, 1) := by decide +kernel
theorem dX11_end_17 : decode cX11_end 17 = .ok (.aload_n 0, 1) := by decide +kernel
theorem dX11_end_18 : decode cX11_end 18 = .ok (.getfield 10, 3) := by decide +kernel
theorem dX11_end_21 : decode cX11_end 21 = .ok (.iload_n 1, 1) := by decide +kernel
theorem dX11_end_22 : decode cX11_end 22 = .ok (.putfield 117, 3) := by decide +kernel
theorem dX11_end_25 : decode cX11_end 25 = .ok (.iconst 1, 1) := by decide +kernel
theorem dX11_end_26 : decode cX11_end 26 = .ok (.ireturn, 1) := by decide +kernel
theorem dX11_land_0 : decode cX11_land 0 = .ok (.aload_n 0, 1) := by decide +kernel
theorem dX11_land_1 : decode cX11_land 1 = .ok (.getfield 44, 3) := by decide +kernel
theorem dX11_land_4 : decode cX11_land 4 = .ok (.invokevirtual 124, 3) := by decide +kernel
theorem dX11_land_7 : decode cX11_land 7 = .ok (.istore_n 1, 1) := by decide +kernel
theorem dX11_land_8 : decode cX11_land 8 = .ok (.aload_n 0, 1) := by decide +kernel
theorem dX11_land_9 : decode cX11_land 9 = .ok (.getfield 10, 3) := by decide +kernel
theorem dX11_land_12 : decode cX11_land 12 = .ok (.iconst 0, 1) := by decide +kernel
theorem dX11_land_13 : decode cX11_land 13 = .ok (.putfield 117, 3) := by decide +kernel
theorem dX11_land_16 : decode cX11_land 16 = .ok (.iload_n 1, 1) := by decide +kernel
theorem dX11_land_17 : decode cX11_land 17 = .ok (.ifCond .ne 5, 3) := by decide +kernel
theorem dX11_land_20 : decode cX11_land 20 = .ok (.iconst (-1), 1) := by decide +kernel
theorem dX11_land_21 : decode cX11_land 21 = .ok (.ireturn, 1) := by decide +kernel
theorem dX11_land_22 : decode cX11_land 22 = .ok (.aload_n 0, 1) := by decide +kernel
theorem dX11_land_23 : decode cX11_land 23 = .ok (.getfield 28, 3) := by decide +kernel
theorem dX11_land_26 : decode cX11_land 26 = .ok (.aload_n 0, 1) := by decide +kernel
theorem dX11_land_27 : decode cX11_land 27 = .ok (.getfield 44, 3) := by decide +kernel
theorem dX11_land_30 : decode cX11_land 30 = .ok (.getfield 128, 3) := by decide +kernel
theorem dX11_land_33 : decode cX11_land 33 = .ok (.invokevirtual 129, 3) := by decide +kernel
theorem dX11_land_36 : decode cX11_land 36 = .ok (.aload_n 0, 1) := by decide +kernel
theorem dX11_land_37 : decode cX11_land 37 = .ok (.getfield 35, 3) := by decide +kernel
theorem dX11_land_40 : decode cX11_land 40 = .ok (.aload_n 0, 1) := by decide +kernel
theorem dX11_land_41 : decode cX11_land 41 = .ok (.getfield 44, 3) := by decide +kernel
theorem dX11_land_44 : decode cX11_land 44 = .ok (.getfield 133, 3) := by decide +kernel
theorem dX11_land_47 : decode cX11_land 47 = .ok (.invokevirtual 134, 3) := by decide +kernel
theorem dX11_land_50 : decode cX11_land 50 = .ok (.aload_n 0, 1) := by decide +kernel
theorem dX11_land_51 : decode cX11_land 51 = .ok (.invokevirtual 114, 3) := by decide +kernel
theorem dX11_land_54 : decode cX11_land 54 = .ok (.aload_n 0, 1) := by decide +kernel
theorem dX11_land_55 : decode cX11_land 55 = .ok (.getfield 44, 3) := by decide +kernel
theorem dX11_land_58 : decode cX11_land 58 = .ok (.getfield 137, 3) := by decide +kernel
theorem dX11_land_61 : decode cX11_land 61 = .ok (.ireturn, 1) := by decide +kernel
theorem dX11_fault_0 : decode cX11_fault 0 = .ok (.iload_n 1, 1) := by decide +kernel
theorem dX11_fault_1 : decode cX11_fault 1 = .ok (.ifCond .ne 11, 3) := by decide +kernel
theorem dX11_fault_4 : decode cX11_fault 4 = .ok (.aload_n 0, 1) := by decide +kernel
theorem dX11_fault_5 : decode cX11_fault 5 = .ok (.getfield 44, 3) := by decide +kernel
theorem dX11_fault_8 : decode cX11_fault 8 = .ok (.getfield 140, 3) := by decide +kernel
theorem dX11_fault_11 : decode cX11_fault 11 = .ok (.ireturn, 1) := by decide +kernel
theorem dX11_fault_12 : decode cX11_fault 12 = .ok (.iload_n 1, 1) := by decide +kernel
theorem dX11_fault_13 : decode cX11_fault 13 = .ok (.iconst 1, 1) := by decide +kernel
theorem dX11_fault_14 : decode cX11_fault 14 = .ok (.if_icmp .ne 13, 3) := by decide +kernel
theorem dX11_fault_17 : decode cX11_fault 17 = .ok (.aload_n 0, 1) := by decide +kernel
theorem dX11_fault_18 : decode cX11_fault 18 = .ok (.getfield 44, 3) := by decide +kernel
theorem dX11_fault_21 : decode cX11_fault 21 = .ok (.getfield 143, 3) := by decide +kernel
theorem dX11_fault_24 : decode cX11_fault 24 = .ok (.goto 4, 3) := by decide +kernel
theorem dX11_fault_27 : decode cX11_fault 27 = .ok (.iconst (-1), 1) := by decide +kernel
theorem dX11_fault_28 : decode cX11_fault 28 = .ok (.ireturn, 1) := by decide +kernel
theorem dX11_has_0 : decode cX11_has 0 = .ok (.iload_n 1, 1) := by decide +kernel
theorem dX11_has_1 : decode cX11_has 1 = .ok (.tableswitch 89 0 5 #[39, 47, 55, 64, 73, 81], 39) := by decide +kernel
theorem dX11_has_40 : decode cX11_has 40 = .ok (.aload_n 0, 1) := by decide +kernel
theorem dX11_has_41 : decode cX11_has 41 = .ok (.getfield 28, 3) := by decide +kernel
theorem dX11_has_44 : decode cX11_has 44 = .ok (.getfield 146, 3) := by decide +kernel
theorem dX11_has_47 : decode cX11_has 47 = .ok (.ireturn, 1) := by decide +kernel
theorem dX11_has_48 : decode cX11_has 48 = .ok (.aload_n 0, 1) := by decide +kernel
theorem dX11_has_49 : decode cX11_has 49 = .ok (.getfield 28, 3) := by decide +kernel
theorem dX11_has_52 : decode cX11_has 52 = .ok (.getfield 149, 3) := by decide +kernel
theorem dX11_has_55 : decode cX11_has 55 = .ok (.ireturn, 1) := by decide +kernel
theorem dX11_has_56 : decode cX11_has 56 = .ok (.aload_n 0, 1) := by decide +kernel
theorem dX11_has_57 : decode cX11_has 57 = .ok (.getfield 35, 3) := by decide +kernel
theorem dX11_has_60 : decode cX11_has 60 = .ok (.iconst 0, 1) := by decide +kernel
theorem dX11_has_61 : decode cX11_has 61 = .ok (.invokevirtual 152, 3) := by decide +kernel
theorem dX11_has_64 : decode cX11_has 64 = .ok (.ireturn, 1) := by decide +kernel
theorem dX11_has_65 : decode cX11_has 65 = .ok (.aload_n 0, 1) := by decide +kernel
theorem dX11_has_66 : decode cX11_has 66 = .ok (.getfield 35, 3) := by decide +kernel
theorem dX11_has_69 : decode cX11_has 69 = .ok (.iconst 1, 1) := by decide +kernel
theorem dX11_has_70 : decode cX11_has 70 = .ok (.invokevirtual 152, 3) := by decide +kernel
theorem dX11_has_73 : decode cX11_has 73 = .ok (.ireturn, 1) := by decide +kernel
theorem dX11_has_74 : decode cX11_has 74 = .ok (.aload_n 0, 1) := by decide +kernel
theorem dX11_has_75 : decode cX11_has 75 = .ok (.getfield 53, 3) := by decide +kernel
theorem dX11_has_78 : decode cX11_has 78 = .ok (.getfield 156, 3) := by decide +kernel
theorem dX11_has_81 : decode cX11_has 81 = .ok (.ireturn, 1) := by decide +kernel
theorem dX11_has_82 : decode cX11_has 82 = .ok (.aload_n 0, 1) := by decide +kernel
theorem dX11_has_83 : decode cX11_has 83 = .ok (.getfield 159, 3) := by decide +kernel
theorem dX11_has_86 : decode cX11_has 86 = .ok (.invokestatic 163, 3) := by decide +kernel
theorem dX11_has_89 : decode cX11_has 89 = .ok (.ireturn, 1) := by decide +kernel
theorem dX11_has_90 : decode cX11_has 90 = .ok (.iconst (-1), 1) := by decide +kernel
theorem dX11_has_91 : decode cX11_has 91 = .ok (.ireturn, 1) := by decide +kernel
theorem dX11_letter_0 : decode cX11_letter 0 = .ok (.aload_n 0, 1) := by decide +kernel
theorem dX11_letter_1 : decode cX11_letter 1 = .ok (.getfield 28, 3) := by decide +kernel
theorem dX11_letter_4 : decode cX11_letter 4 = .ok (.iload_n 1, 1) := by decide +kernel
theorem dX11_letter_5 : decode cX11_letter 5 = .ok (.invokevirtual 169, 3) := by decide +kernel
theorem dX11_letter_8 : decode cX11_letter 8 = .ok (.ifCond .eq 13, 3) := by decide +kernel
theorem dX11_letter_11 : decode cX11_letter 11 = .ok (.iload_n 2, 1) := by decide +kernel
theorem dX11_letter_12 : decode cX11_letter 12 = .ok (.ifCond .lt 9, 3) := by decide +kernel
theorem dX11_letter_15 : decode cX11_letter 15 = .ok (.iload_n 2, 1) := by decide +kernel
theorem dX11_letter_16 : decode cX11_letter 16 = .ok (.bipush 6, 2) := by decide +kernel
theorem dX11_letter_18 : decode cX11_letter 18 = .ok (.if_icmp .lt 5, 3) := by decide +kernel
theorem dX11_letter_21 : decode cX11_letter 21 = .ok (.iconst (-1), 1) := by decide +kernel
theorem dX11_letter_22 : decode cX11_letter 22 = .ok (.ireturn, 1) := by decide +kernel
theorem dX11_letter_23 : decode cX11_letter 23 = .ok (.aload_n 0, 1) := by decide +kernel
theorem dX11_letter_24 : decode cX11_letter 24 = .ok (.getfield 28, 3) := by decide +kernel
theorem dX11_letter_27 : decode cX11_letter 27 = .ok (.getfield 175, 3) := by decide +kernel
theorem dX11_letter_30 : decode cX11_letter 30 = .ok (.iload_n 1, 1) := by decide +kernel
theorem dX11_letter_31 : decode cX11_letter 31 = .ok (.iaload, 1) := by decide +kernel
theorem dX11_letter_32 : decode cX11_letter 32 = .ok (.iconst 5, 1) := by decide +kernel
theorem dX11_letter_33 : decode cX11_letter 33 = .ok (.iconst 5, 1) := by decide +kernel
theorem dX11_letter_34 : decode cX11_letter 34 = .ok (.iload_n 2, 1) := by decide +kernel
theorem dX11_letter_35 : decode cX11_letter 35 = .ok (.isub, 1) := by decide +kernel
theorem dX11_letter_36 : decode cX11_letter 36 = .ok (.imul, 1) := by decide +kernel
theorem dX11_letter_37 : decode cX11_letter 37 = .ok (.ishr, 1) := by decide +kernel
theorem dX11_letter_38 : decode cX11_letter 38 = .ok (.bipush 31, 2) := by decide +kernel
theorem dX11_letter_40 : decode cX11_letter 40 = .ok (.iand, 1) := by decide +kernel
theorem dX11_letter_41 : decode cX11_letter 41 = .ok (.ireturn, 1) := by decide +kernel
theorem dX11_net_0 : decode cX11_net 0 = .ok (.aload_n 0, 1) := by decide +kernel
theorem dX11_net_1 : decode cX11_net 1 = .ok (.getfield 28, 3) := by decide +kernel
theorem dX11_net_4 : decode cX11_net 4 = .ok (.lload_n 1, 1) := by decide +kernel
theorem dX11_net_5 : decode cX11_net 5 = .ok (.invokevirtual 178, 3) := by decide +kernel
theorem dX11_net_8 : decode cX11_net 8 = .ok (.ifCond .eq 14, 3) := by decide +kernel
theorem dX11_net_11 : decode cX11_net 11 = .ok (.aload_n 0, 1) := by decide +kernel
theorem dX11_net_12 : decode cX11_net 12 = .ok (.getfield 28, 3) := by decide +kernel
theorem dX11_net_15 : decode cX11_net 15 = .ok (.lload_n 1, 1) := by decide +kernel
theorem dX11_net_16 : decode cX11_net 16 = .ok (.invokevirtual 182, 3) := by decide +kernel
theorem dX11_net_19 : decode cX11_net 19 = .ok (.ifCond .ne 5, 3) := by decide +kernel
theorem dX11_net_22 : decode cX11_net 22 = .ok (.iconst 0, 1) := by decide +kernel
theorem dX11_net_23 : decode cX11_net 23 = .ok (.ireturn, 1) := by decide +kernel
theorem dX11_net_24 : decode cX11_net 24 = .ok (.aload_n 0, 1) := by decide +kernel
theorem dX11_net_25 : decode cX11_net 25 = .ok (.lload_n 1, 1) := by decide +kernel
theorem dX11_net_26 : decode cX11_net 26 = .ok (.putfield 159, 3) := by decide +kernel
theorem dX11_net_29 : decode cX11_net 29 = .ok (.iconst 1, 1) := by decide +kernel
theorem dX11_net_30 : decode cX11_net 30 = .ok (.ireturn, 1) := by decide +kernel
theorem dX11_net__0 : decode cX11_net_ 0 = .ok (.aload_n 0, 1) := by decide +kernel
theorem dX11_net__1 : decode cX11_net_ 1 = .ok (.getfield 159, 3) := by decide +kernel
theorem dX11_net__4 : decode cX11_net_ 4 = .ok (.lreturn, 1) := by decide +kernel
theorem dX11_shape_0 : decode cX11_shape 0 = .ok (.aload_n 0, 1) := by decide +kernel
theorem dX11_shape_1 : decode cX11_shape 1 = .ok (.getfield 28, 3) := by decide +kernel
theorem dX11_shape_4 : decode cX11_shape 4 = .ok (.getfield 146, 3) := by decide +kernel
theorem dX11_shape_7 : decode cX11_shape 7 = .ok (.istore_n 3, 1) := by decide +kernel
theorem dX11_shape_8 : decode cX11_shape 8 = .ok (.iload_n 1, 1) := by decide +kernel
theorem dX11_shape_9 : decode cX11_shape 9 = .ok (.tableswitch 195 0 6 #[43, 45, 55, 82, 93, 115, 152], 43) := by decide +kernel
theorem dX11_shape_52 : decode cX11_shape 52 = .ok (.lconst 0, 1) := by decide +kernel
theorem dX11_shape_53 : decode cX11_shape 53 = .ok (.lreturn, 1) := by decide +kernel
theorem dX11_shape_54 : decode cX11_shape 54 = .ok (.aload_n 0, 1) := by decide +kernel
theorem dX11_shape_55 : decode cX11_shape 55 = .ok (.getfield 19, 3) := by decide +kernel
theorem dX11_shape_58 : decode cX11_shape 58 = .ok (.iconst 0, 1) := by decide +kernel
theorem dX11_shape_59 : decode cX11_shape 59 = .ok (.iload_n 3, 1) := by decide +kernel
theorem dX11_shape_60 : decode cX11_shape 60 = .ok (.invokevirtual 185, 3) := by decide +kernel
theorem dX11_shape_63 : decode cX11_shape 63 = .ok (.lreturn, 1) := by decide +kernel
theorem dX11_shape_64 : decode cX11_shape 64 = .ok (.aload_n 0, 1) := by decide +kernel
theorem dX11_shape_65 : decode cX11_shape 65 = .ok (.getfield 28, 3) := by decide +kernel
theorem dX11_shape_68 : decode cX11_shape 68 = .ok (.iload_n 2, 1) := by decide +kernel
theorem dX11_shape_69 : decode cX11_shape 69 = .ok (.invokevirtual 169, 3) := by decide +kernel
theorem dX11_shape_72 : decode cX11_shape 72 = .ok (.ifCond .eq 15, 3) := by decide +kernel
theorem dX11_shape_75 : decode cX11_shape 75 = .ok (.aload_n 0, 1) := by decide +kernel
theorem dX11_shape_76 : decode cX11_shape 76 = .ok (.getfield 19, 3) := by decide +kernel
theorem dX11_shape_79 : decode cX11_shape 79 = .ok (.iload_n 2, 1) := by decide +kernel
theorem dX11_shape_80 : decode cX11_shape 80 = .ok (.iload_n 3, 1) := by decide +kernel
theorem dX11_shape_81 : decode cX11_shape 81 = .ok (.invokevirtual 189, 3) := by decide +kernel
theorem dX11_shape_84 : decode cX11_shape 84 = .ok (.goto 6, 3) := by decide +kernel
theorem dX11_shape_87 : decode cX11_shape 87 = .ok (.ldc2_w 192, 3) := by decide +kernel
theorem dX11_shape_90 : decode cX11_shape 90 = .ok (.lreturn, 1) := by decide +kernel
theorem dX11_shape_91 : decode cX11_shape 91 = .ok (.aload_n 0, 1) := by decide +kernel
theorem dX11_shape_92 : decode cX11_shape 92 = .ok (.getfield 19, 3) := by decide +kernel
theorem dX11_shape_95 : decode cX11_shape 95 = .ok (.iload_n 3, 1) := by decide +kernel
theorem dX11_shape_96 : decode cX11_shape 96 = .ok (.iload_n 3, 1) := by decide +kernel
theorem dX11_shape_97 : decode cX11_shape 97 = .ok (.iconst 0, 1) := by decide +kernel
theorem dX11_shape_98 : decode cX11_shape 98 = .ok (.invokevirtual 194, 3) := by decide +kernel
theorem dX11_shape_101 : decode cX11_shape 101 = .ok (.lreturn, 1) := by decide +kernel
theorem dX11_shape_102 : decode cX11_shape 102 = .ok (.iload_n 3, 1) := by decide +kernel
theorem dX11_shape_103 : decode cX11_shape 103 = .ok (.iconst 3, 1) := by decide +kernel
theorem dX11_shape_104 : decode cX11_shape 104 = .ok (.if_icmp .lt 16, 3) := by decide +kernel
theorem dX11_shape_107 : decode cX11_shape 107 = .ok (.aload_n 0, 1) := by decide +kernel
theorem dX11_shape_108 : decode cX11_shape 108 = .ok (.getfield 19, 3) := by decide +kernel
theorem dX11_shape_111 : decode cX11_shape 111 = .ok (.iload_n 3, 1) := by decide +kernel
theorem dX11_shape_112 : decode cX11_shape 112 = .ok (.iload_n 3, 1) := by decide +kernel
theorem dX11_shape_113 : decode cX11_shape 113 = .ok (.iconst 1, 1) := by decide +kernel
theorem dX11_shape_114 : decode cX11_shape 114 = .ok (.invokevirtual 194, 3) := by decide +kernel
theorem dX11_shape_117 : decode cX11_shape 117 = .ok (.goto 6, 3) := by decide +kernel
theorem dX11_shape_120 : decode cX11_shape 120 = .ok (.ldc2_w 192, 3) := by decide +kernel
theorem dX11_shape_123 : decode cX11_shape 123 = .ok (.lreturn, 1) := by decide +kernel
theorem dX11_shape_124 : decode cX11_shape 124 = .ok (.aload_n 0, 1) := by decide +kernel
theorem dX11_shape_125 : decode cX11_shape 125 = .ok (.getfield 28, 3) := by decide +kernel
theorem dX11_shape_128 : decode cX11_shape 128 = .ok (.iload_n 2, 1) := by decide +kernel
theorem dX11_shape_129 : decode cX11_shape 129 = .ok (.invokevirtual 169, 3) := by decide +kernel
theorem dX11_shape_132 : decode cX11_shape 132 = .ok (.ifCond .eq 25, 3) := by decide +kernel
theorem dX11_shape_135 : decode cX11_shape 135 = .ok (.aload_n 0, 1) := by decide +kernel
theorem dX11_shape_136 : decode cX11_shape 136 = .ok (.getfield 19, 3) := by decide +kernel
theorem dX11_shape_139 : decode cX11_shape 139 = .ok (.iconst 0, 1) := by decide +kernel
theorem dX11_shape_140 : decode cX11_shape 140 = .ok (.iload_n 2, 1) := by decide +kernel
theorem dX11_shape_141 : decode cX11_shape 141 = .ok (.invokevirtual 185, 3) := by decide +kernel
theorem dX11_shape_144 : decode cX11_shape 144 = .ok (.aload_n 0, 1) := by decide +kernel
theorem dX11_shape_145 : decode cX11_shape 145 = .ok (.getfield 19, 3) := by decide +kernel
theorem dX11_shape_148 : decode cX11_shape 148 = .ok (.iload_n 2, 1) := by decide +kernel
theorem dX11_shape_149 : decode cX11_shape 149 = .ok (.iload_n 3, 1) := by decide +kernel
theorem dX11_shape_150 : decode cX11_shape 150 = .ok (.invokevirtual 185, 3) := by decide +kernel
theorem dX11_shape_153 : decode cX11_shape 153 = .ok (.lor, 1) := by decide +kernel
theorem dX11_shape_154 : decode cX11_shape 154 = .ok (.goto 6, 3) := by decide +kernel
theorem dX11_shape_157 : decode cX11_shape 157 = .ok (.ldc2_w 192, 3) := by decide +kernel
theorem dX11_shape_160 : decode cX11_shape 160 = .ok (.lreturn, 1) := by decide +kernel
theorem dX11_shape_161 : decode cX11_shape 161 = .ok (.aload_n 0, 1) := by decide +kernel
theorem dX11_shape_162 : decode cX11_shape 162 = .ok (.getfield 28, 3) := by decide +kernel
theorem dX11_shape_165 : decode cX11_shape 165 = .ok (.iload_n 2, 1) := by decide +kernel
theorem dX11_shape_166 : decode cX11_shape 166 = .ok (.invokevirtual 169, 3) := by decide +kernel
theorem dX11_shape_169 : decode cX11_shape 169 = .ok (.ifCond .eq 31, 3) := by decide +kernel
theorem dX11_shape_172 : decode cX11_shape 172 = .ok (.iload_n 3, 1) := by decide +kernel
theorem dX11_shape_173 : decode cX11_shape 173 = .ok (.iconst 4, 1) := by decide +kernel
theorem dX11_shape_174 : decode cX11_shape 174 = .ok (.if_icmp .lt 26, 3) := by decide +kernel
theorem dX11_shape_177 : decode cX11_shape 177 = .ok (.aload_n 0, 1) := by decide +kernel
theorem dX11_shape_178 : decode cX11_shape 178 = .ok (.getfield 19, 3) := by decide +kernel
theorem dX11_shape_181 : decode cX11_shape 181 = .ok (.iload_n 3, 1) := by decide +kernel
theorem dX11_shape_182 : decode cX11_shape 182 = .ok (.iload_n 2, 1) := by decide +kernel
theorem dX11_shape_183 : decode cX11_shape 183 = .ok (.iconst 1, 1) := by decide +kernel
theorem dX11_shape_184 : decode cX11_shape 184 = .ok (.invokevirtual 194, 3) := by decide +kernel
theorem dX11_shape_187 : decode cX11_shape 187 = .ok (.aload_n 0, 1) := by decide +kernel
theorem dX11_shape_188 : decode cX11_shape 188 = .ok (.getfield 19, 3) := by decide +kernel
theorem dX11_shape_191 : decode cX11_shape 191 = .ok (.iload_n 2, 1) := by decide +kernel
theorem dX11_shape_192 : decode cX11_shape 192 = .ok (.iload_n 3, 1) := by decide +kernel
theorem dX11_shape_193 : decode cX11_shape 193 = .ok (.invokevirtual 189, 3) := by decide +kernel
theorem dX11_shape_196 : decode cX11_shape 196 = .ok (.lor, 1) := by decide +kernel
theorem dX11_shape_197 : decode cX11_shape 197 = .ok (.goto 6, 3) := by decide +kernel
theorem dX11_shape_200 : decode cX11_shape 200 = .ok (.ldc2_w 192, 3) := by decide +kernel
theorem dX11_shape_203 : decode cX11_shape 203 = .ok (.lreturn, 1) := by decide +kernel
theorem dX11_shape_204 : decode cX11_shape 204 = .ok (.ldc2_w 192, 3) := by decide +kernel
theorem dX11_shape_207 : decode cX11_shape 207 = .ok (.lreturn, 1) := by decide +kernel
theorem dX11_extra_0 : decode cX11_extra 0 = .ok (.iload_n 1, 1) := by decide +kernel
theorem dX11_extra_1 : decode cX11_extra 1 = .ok (.invokestatic 198, 3) := by decide +kernel
theorem dX11_extra_4 : decode cX11_extra 4 = .ok (.ifCond .ne 5, 3) := by decide +kernel
theorem dX11_extra_7 : decode cX11_extra 7 = .ok (.iconst 0, 1) := by decide +kernel
theorem dX11_extra_8 : decode cX11_extra 8 = .ok (.ireturn, 1) := by decide +kernel
theorem dX11_extra_9 : decode cX11_extra 9 = .ok (.aload_n 0, 1) := by decide +kernel
theorem dX11_extra_10 : decode cX11_extra 10 = .ok (.getfield 53, 3) := by decide +kernel
theorem dX11_extra_13 : decode cX11_extra 13 = .ok (.iload_n 1, 1) := by decide +kernel
theorem dX11_extra_14 : decode cX11_extra 14 = .ok (.putfield 156, 3) := by decide +kernel
theorem dX11_extra_17 : decode cX11_extra 17 = .ok (.iconst 1, 1) := by decide +kernel
theorem dX11_extra_18 : decode cX11_extra 18 = .ok (.ireturn, 1) := by decide +kernel
theorem dX11_worth_0 : decode cX11_worth 0 = .ok (.iload_n 1, 1) := by decide +kernel
theorem dX11_worth_1 : decode cX11_worth 1 = .ok (.iconst (-1), 1) := by decide +kernel
theorem dX11_worth_2 : decode cX11_worth 2 = .ok (.if_icmp .ne 15, 3) := by decide +kernel
theorem dX11_worth_5 : decode cX11_worth 5 = .ok (.aload_n 0, 1) := by decide +kernel
theorem dX11_worth_6 : decode cX11_worth 6 = .ok (.getfield 53, 3) := by decide +kernel
theorem dX11_worth_9 : decode cX11_worth 9 = .ok (.aload_n 0, 1) := by decide +kernel
theorem dX11_worth_10 : decode cX11_worth 10 = .ok (.getfield 159, 3) := by decide +kernel
theorem dX11_worth_13 : decode cX11_worth 13 = .ok (.invokevirtual 201, 3) := by decide +kernel
theorem dX11_worth_16 : decode cX11_worth 16 = .ok (.lreturn, 1) := by decide +kernel
theorem dX11_worth_17 : decode cX11_worth 17 = .ok (.aload_n 0, 1) := by decide +kernel
theorem dX11_worth_18 : decode cX11_worth 18 = .ok (.getfield 28, 3) := by decide +kernel
theorem dX11_worth_21 : decode cX11_worth 21 = .ok (.iload_n 1, 1) := by decide +kernel
theorem dX11_worth_22 : decode cX11_worth 22 = .ok (.invokevirtual 169, 3) := by decide +kernel
theorem dX11_worth_25 : decode cX11_worth 25 = .ok (.ifCond .eq 18, 3) := by decide +kernel
theorem dX11_worth_28 : decode cX11_worth 28 = .ok (.aload_n 0, 1) := by decide +kernel
theorem dX11_worth_29 : decode cX11_worth 29 = .ok (.getfield 53, 3) := by decide +kernel
theorem dX11_worth_32 : decode cX11_worth 32 = .ok (.aload_n 0, 1) := by decide +kernel
theorem dX11_worth_33 : decode cX11_worth 33 = .ok (.getfield 159, 3) := by decide +kernel
theorem dX11_worth_36 : decode cX11_worth 36 = .ok (.iload_n 1, 1) := by decide +kernel
theorem dX11_worth_37 : decode cX11_worth 37 = .ok (.invokevirtual 205, 3) := by decide +kernel
theorem dX11_worth_40 : decode cX11_worth 40 = .ok (.goto 6, 3) := by decide +kernel
theorem dX11_worth_43 : decode cX11_worth 43 = .ok (.ldc2_w 209, 3) := by decide +kernel
theorem dX11_worth_46 : decode cX11_worth 46 = .ok (.lreturn, 1) := by decide +kernel
theorem dX11_ways_0 : decode cX11_ways 0 = .ok (.aload_n 0, 1) := by decide +kernel
theorem dX11_ways_1 : decode cX11_ways 1 = .ok (.getfield 28, 3) := by decide +kernel
theorem dX11_ways_4 : decode cX11_ways 4 = .ok (.iload_n 1, 1) := by decide +kernel
theorem dX11_ways_5 : decode cX11_ways 5 = .ok (.invokevirtual 169, 3) := by decide +kernel
theorem dX11_ways_8 : decode cX11_ways 8 = .ok (.ifCond .eq 14, 3) := by decide +kernel
theorem dX11_ways_11 : decode cX11_ways 11 = .ok (.aload_n 0, 1) := by decide +kernel
theorem dX11_ways_12 : decode cX11_ways 12 = .ok (.getfield 28, 3) := by decide +kernel
theorem dX11_ways_15 : decode cX11_ways 15 = .ok (.iload_n 2, 1) := by decide +kernel
theorem dX11_ways_16 : decode cX11_ways 16 = .ok (.invokevirtual 169, 3) := by decide +kernel
theorem dX11_ways_19 : decode cX11_ways 19 = .ok (.ifCond .ne 5, 3) := by decide +kernel
theorem dX11_ways_22 : decode cX11_ways 22 = .ok (.iconst (-1), 1) := by decide +kernel
theorem dX11_ways_23 : decode cX11_ways 23 = .ok (.ireturn, 1) := by decide +kernel
theorem dX11_ways_24 : decode cX11_ways 24 = .ok (.aload_n 0, 1) := by decide +kernel
theorem dX11_ways_25 : decode cX11_ways 25 = .ok (.getfield 53, 3) := by decide +kernel
theorem dX11_ways_28 : decode cX11_ways 28 = .ok (.aload_n 0, 1) := by decide +kernel
theorem dX11_ways_29 : decode cX11_ways 29 = .ok (.getfield 159, 3) := by decide +kernel
theorem dX11_ways_32 : decode cX11_ways 32 = .ok (.invokevirtual 211, 3) := by decide +kernel
theorem dX11_ways_35 : decode cX11_ways 35 = .ok (.aload_n 0, 1) := by decide +kernel
theorem dX11_ways_36 : decode cX11_ways 36 = .ok (.getfield 53, 3) := by decide +kernel
theorem dX11_ways_39 : decode cX11_ways 39 = .ok (.iload_n 1, 1) := by decide +kernel
theorem dX11_ways_40 : decode cX11_ways 40 = .ok (.invokevirtual 215, 3) := by decide +kernel
theorem dX11_ways_43 : decode cX11_ways 43 = .ok (.aload_n 0, 1) := by decide +kernel
theorem dX11_ways_44 : decode cX11_ways 44 = .ok (.getfield 53, 3) := by decide +kernel
theorem dX11_ways_47 : decode cX11_ways 47 = .ok (.getfield 218, 3) := by decide +kernel
theorem dX11_ways_50 : decode cX11_ways 50 = .ok (.iload_n 2, 1) := by decide +kernel
theorem dX11_ways_51 : decode cX11_ways 51 = .ok (.iaload, 1) := by decide +kernel
theorem dX11_ways_52 : decode cX11_ways 52 = .ok (.ireturn, 1) := by decide +kernel
theorem dX11_rest_0 : decode cX11_rest 0 = .ok (.iload_n 1, 1) := by decide +kernel
theorem dX11_rest_1 : decode cX11_rest 1 = .ok (.invokestatic 221, 3) := by decide +kernel
theorem dX11_rest_4 : decode cX11_rest 4 = .ok (.ifCond .eq 19, 3) := by decide +kernel
theorem dX11_rest_7 : decode cX11_rest 7 = .ok (.iload_n 1, 1) := by decide +kernel
theorem dX11_rest_8 : decode cX11_rest 8 = .ok (.iconst 5, 1) := by decide +kernel
theorem dX11_rest_9 : decode cX11_rest 9 = .ok (.if_icmp .ne 16, 3) := by decide +kernel
theorem dX11_rest_12 : decode cX11_rest 12 = .ok (.aload_n 0, 1) := by decide +kernel
theorem dX11_rest_13 : decode cX11_rest 13 = .ok (.getfield 28, 3) := by decide +kernel
theorem dX11_rest_16 : decode cX11_rest 16 = .ok (.getfield 146, 3) := by decide +kernel
theorem dX11_rest_19 : decode cX11_rest 19 = .ok (.iconst 5, 1) := by decide +kernel
theorem dX11_rest_20 : decode cX11_rest 20 = .ok (.if_icmp .le 5, 3) := by decide +kernel
theorem dX11_rest_23 : decode cX11_rest 23 = .ok (.iconst (-1), 1) := by decide +kernel
theorem dX11_rest_24 : decode cX11_rest 24 = .ok (.ireturn, 1) := by decide +kernel
theorem dX11_rest_25 : decode cX11_rest 25 = .ok (.aload_n 0, 1) := by decide +kernel
theorem dX11_rest_26 : decode cX11_rest 26 = .ok (.getfield 62, 3) := by decide +kernel
theorem dX11_rest_29 : decode cX11_rest 29 = .ok (.aload_n 0, 1) := by decide +kernel
theorem dX11_rest_30 : decode cX11_rest 30 = .ok (.getfield 159, 3) := by decide +kernel
theorem dX11_rest_33 : decode cX11_rest 33 = .ok (.iload_n 1, 1) := by decide +kernel
theorem dX11_rest_34 : decode cX11_rest 34 = .ok (.iconst 1, 1) := by decide +kernel
theorem dX11_rest_35 : decode cX11_rest 35 = .ok (.invokevirtual 224, 3) := by decide +kernel
theorem dX11_rest_38 : decode cX11_rest 38 = .ok (.ifCond .ne 5, 3) := by decide +kernel
theorem dX11_rest_41 : decode cX11_rest 41 = .ok (.iconst 1, 1) := by decide +kernel
theorem dX11_rest_42 : decode cX11_rest 42 = .ok (.ireturn, 1) := by decide +kernel
theorem dX11_rest_43 : decode cX11_rest 43 = .ok (.aload_n 0, 1) := by decide +kernel
theorem dX11_rest_44 : decode cX11_rest 44 = .ok (.getfield 101, 3) := by decide +kernel
theorem dX11_rest_47 : decode cX11_rest 47 = .ok (.iconst 0, 1) := by decide +kernel
theorem dX11_rest_48 : decode cX11_rest 48 = .ok (.aload_n 0, 1) := by decide +kernel
theorem dX11_rest_49 : decode cX11_rest 49 = .ok (.getfield 62, 3) := by decide +kernel
theorem dX11_rest_52 : decode cX11_rest 52 = .ok (.getfield 228, 3) := by decide +kernel
theorem dX11_rest_55 : decode cX11_rest 55 = .ok (.i2l, 1) := by decide +kernel
theorem dX11_rest_56 : decode cX11_rest 56 = .ok (.lastore, 1) := by decide +kernel
theorem dX11_rest_57 : decode cX11_rest 57 = .ok (.aload_n 0, 1) := by decide +kernel
theorem dX11_rest_58 : decode cX11_rest 58 = .ok (.getfield 101, 3) := by decide +kernel
theorem dX11_rest_61 : decode cX11_rest 61 = .ok (.iconst 1, 1) := by decide +kernel
theorem dX11_rest_62 : decode cX11_rest 62 = .ok (.aload_n 0, 1) := by decide +kernel
theorem dX11_rest_63 : decode cX11_rest 63 = .ok (.getfield 62, 3) := by decide +kernel
theorem dX11_rest_66 : decode cX11_rest 66 = .ok (.getfield 231, 3) := by decide +kernel
theorem dX11_rest_69 : decode cX11_rest 69 = .ok (.i2l, 1) := by decide +kernel
theorem dX11_rest_70 : decode cX11_rest 70 = .ok (.lastore, 1) := by decide +kernel
theorem dX11_rest_71 : decode cX11_rest 71 = .ok (.aload_n 0, 1) := by decide +kernel
theorem dX11_rest_72 : decode cX11_rest 72 = .ok (.getfield 101, 3) := by decide +kernel
theorem dX11_rest_75 : decode cX11_rest 75 = .ok (.iconst 2, 1) := by decide +kernel
theorem dX11_rest_76 : decode cX11_rest 76 = .ok (.aload_n 0, 1) := by decide +kernel
theorem dX11_rest_77 : decode cX11_rest 77 = .ok (.getfield 62, 3) := by decide +kernel
theorem dX11_rest_80 : decode cX11_rest 80 = .ok (.getfield 234, 3) := by decide +kernel
theorem dX11_rest_83 : decode cX11_rest 83 = .ok (.lastore, 1) := by decide +kernel
theorem dX11_rest_84 : decode cX11_rest 84 = .ok (.iconst 0, 1) := by decide +kernel
theorem dX11_rest_85 : decode cX11_rest 85 = .ok (.ireturn, 1) := by decide +kernel
theorem dX11_bars_0 : decode cX11_bars 0 = .ok (.iload_n 1, 1) := by decide +kernel
theorem dX11_bars_1 : decode cX11_bars 1 = .ok (.ifCond .lt 21, 3) := by decide +kernel
theorem dX11_bars_4 : decode cX11_bars 4 = .ok (.iload_n 1, 1) := by decide +kernel
theorem dX11_bars_5 : decode cX11_bars 5 = .ok (.aload_n 0, 1) := by decide +kernel
theorem dX11_bars_6 : decode cX11_bars 6 = .ok (.getfield 101, 3) := by decide +kernel
theorem dX11_bars_9 : decode cX11_bars 9 = .ok (.arraylength, 1) := by decide +kernel
theorem dX11_bars_10 : decode cX11_bars 10 = .ok (.if_icmp .ge 12, 3) := by decide +kernel
theorem dX11_bars_13 : decode cX11_bars 13 = .ok (.aload_n 0, 1) := by decide +kernel
theorem dX11_bars_14 : decode cX11_bars 14 = .ok (.getfield 101, 3) := by decide +kernel
theorem dX11_bars_17 : decode cX11_bars 17 = .ok (.iload_n 1, 1) := by decide +kernel
theorem dX11_bars_18 : decode cX11_bars 18 = .ok (.laload, 1) := by decide +kernel
theorem dX11_bars_19 : decode cX11_bars 19 = .ok (.goto 6, 3) := by decide +kernel
theorem dX11_bars_22 : decode cX11_bars 22 = .ok (.ldc2_w 192, 3) := by decide +kernel
theorem dX11_bars_25 : decode cX11_bars 25 = .ok (.lreturn, 1) := by decide +kernel
theorem dX11_step_0 : decode cX11_step 0 = .ok (.iload_n 1, 1) := by decide +kernel
theorem dX11_step_1 : decode cX11_step 1 = .ok (.iconst (-1), 1) := by decide +kernel
theorem dX11_step_2 : decode cX11_step 2 = .ok (.if_icmp .ge 6, 3) := by decide +kernel
theorem dX11_step_5 : decode cX11_step 5 = .ok (.bipush (-2), 2) := by decide +kernel
theorem dX11_step_7 : decode cX11_step 7 = .ok (.ireturn, 1) := by decide +kernel
theorem dX11_step_8 : decode cX11_step 8 = .ok (.iload_n 1, 1) := by decide +kernel
theorem dX11_step_9 : decode cX11_step 9 = .ok (.iconst (-1), 1) := by decide +kernel
theorem dX11_step_10 : decode cX11_step 10 = .ok (.if_icmp .ne 17, 3) := by decide +kernel
theorem dX11_step_13 : decode cX11_step 13 = .ok (.aload_n 0, 1) := by decide +kernel
theorem dX11_step_14 : decode cX11_step 14 = .ok (.getfield 71, 3) := by decide +kernel
theorem dX11_step_17 : decode cX11_step 17 = .ok (.aload_n 0, 1) := by decide +kernel
theorem dX11_step_18 : decode cX11_step 18 = .ok (.getfield 159, 3) := by decide +kernel
theorem dX11_step_21 : decode cX11_step 21 = .ok (.invokevirtual 237, 3) := by decide +kernel
theorem dX11_step_24 : decode cX11_step 24 = .ok (.goto 15, 3) := by decide +kernel
theorem dX11_step_27 : decode cX11_step 27 = .ok (.aload_n 0, 1) := by decide +kernel
theorem dX11_step_28 : decode cX11_step 28 = .ok (.getfield 71, 3) := by decide +kernel
theorem dX11_step_31 : decode cX11_step 31 = .ok (.aload_n 0, 1) := by decide +kernel
theorem dX11_step_32 : decode cX11_step 32 = .ok (.getfield 159, 3) := by decide +kernel
theorem dX11_step_35 : decode cX11_step 35 = .ok (.iload_n 1, 1) := by decide +kernel
theorem dX11_step_36 : decode cX11_step 36 = .ok (.invokevirtual 240, 3) := by decide +kernel
theorem dX11_step_39 : decode cX11_step 39 = .ok (.istore_n 2, 1) := by decide +kernel
theorem dX11_step_40 : decode cX11_step 40 = .ok (.iload_n 2, 1) := by decide +kernel
theorem dX11_step_41 : decode cX11_step 41 = .ok (.iconst (-1), 1) := by decide +kernel
theorem dX11_step_42 : decode cX11_step 42 = .ok (.if_icmp .eq 15, 3) := by decide +kernel
theorem dX11_step_45 : decode cX11_step 45 = .ok (.aload_n 0, 1) := by decide +kernel
theorem dX11_step_46 : decode cX11_step 46 = .ok (.dup, 1) := by decide +kernel
theorem dX11_step_47 : decode cX11_step 47 = .ok (.getfield 159, 3) := by decide +kernel
theorem dX11_step_50 : decode cX11_step 50 = .ok (.lconst 1, 1) := by decide +kernel
theorem dX11_step_51 : decode cX11_step 51 = .ok (.iload_n 2, 1) := by decide +kernel
theorem dX11_step_52 : decode cX11_step 52 = .ok (.lshl, 1) := by decide +kernel
theorem dX11_step_53 : decode cX11_step 53 = .ok (.lxor, 1) := by decide +kernel
theorem dX11_step_54 : decode cX11_step 54 = .ok (.putfield 159, 3) := by decide +kernel
theorem dX11_step_57 : decode cX11_step 57 = .ok (.iload_n 2, 1) := by decide +kernel
theorem dX11_step_58 : decode cX11_step 58 = .ok (.ireturn, 1) := by decide +kernel
theorem dX11_go_0 : decode cX11_go 0 = .ok (.aload_n 0, 1) := by decide +kernel
theorem dX11_go_1 : decode cX11_go 1 = .ok (.getfield 71, 3) := by decide +kernel
theorem dX11_go_4 : decode cX11_go 4 = .ok (.aload_n 0, 1) := by decide +kernel
theorem dX11_go_5 : decode cX11_go 5 = .ok (.getfield 159, 3) := by decide +kernel
theorem dX11_go_8 : decode cX11_go 8 = .ok (.invokevirtual 244, 3) := by decide +kernel
theorem dX11_go_11 : decode cX11_go 11 = .ok (.aload_n 0, 1) := by decide +kernel
theorem dX11_go_12 : decode cX11_go 12 = .ok (.aload_n 0, 1) := by decide +kernel
theorem dX11_go_13 : decode cX11_go 13 = .ok (.getfield 71, 3) := by decide +kernel
theorem dX11_go_16 : decode cX11_go 16 = .ok (.invokevirtual 247, 3) := by decide +kernel
theorem dX11_go_19 : decode cX11_go 19 = .ok (.putfield 159, 3) := by decide +kernel
theorem dX11_go_22 : decode cX11_go 22 = .ok (.aload_n 0, 1) := by decide +kernel
theorem dX11_go_23 : decode cX11_go 23 = .ok (.getfield 105, 3) := by decide +kernel
theorem dX11_go_26 : decode cX11_go 26 = .ok (.iconst 0, 1) := by decide +kernel
theorem dX11_go_27 : decode cX11_go 27 = .ok (.aload_n 0, 1) := by decide +kernel
theorem dX11_go_28 : decode cX11_go 28 = .ok (.getfield 71, 3) := by decide +kernel
theorem dX11_go_31 : decode cX11_go 31 = .ok (.getfield 251, 3) := by decide +kernel
theorem dX11_go_34 : decode cX11_go 34 = .ok (.i2l, 1) := by decide +kernel
theorem dX11_go_35 : decode cX11_go 35 = .ok (.lastore, 1) := by decide +kernel
theorem dX11_go_36 : decode cX11_go 36 = .ok (.aload_n 0, 1) := by decide +kernel
theorem dX11_go_37 : decode cX11_go 37 = .ok (.getfield 105, 3) := by decide +kernel
theorem dX11_go_40 : decode cX11_go 40 = .ok (.iconst 1, 1) := by decide +kernel
theorem dX11_go_41 : decode cX11_go 41 = .ok (.aload_n 0, 1) := by decide +kernel
theorem dX11_go_42 : decode cX11_go 42 = .ok (.getfield 71, 3) := by decide +kernel
theorem dX11_go_45 : decode cX11_go 45 = .ok (.invokevirtual 254, 3) := by decide +kernel
theorem dX11_go_48 : decode cX11_go 48 = .ok (.lastore, 1) := by decide +kernel
theorem dX11_go_49 : decode cX11_go 49 = .ok (.aload_n 0, 1) := by decide +kernel
theorem dX11_go_50 : decode cX11_go 50 = .ok (.getfield 71, 3) := by decide +kernel
theorem dX11_go_53 : decode cX11_go 53 = .ok (.getfield 257, 3) := by decide +kernel
theorem dX11_go_56 : decode cX11_go 56 = .ok (.ifCond .eq 13, 3) := by decide +kernel
theorem dX11_go_59 : decode cX11_go 59 = .ok (.aload_n 0, 1) := by decide +kernel
theorem dX11_go_60 : decode cX11_go 60 = .ok (.getfield 71, 3) := by decide +kernel
theorem dX11_go_63 : decode cX11_go 63 = .ok (.getfield 261, 3) := by decide +kernel
theorem dX11_go_66 : decode cX11_go 66 = .ok (.goto 4, 3) := by decide +kernel
theorem dX11_go_69 : decode cX11_go 69 = .ok (.iconst (-1), 1) := by decide +kernel
theorem dX11_go_70 : decode cX11_go 70 = .ok (.ireturn, 1) := by decide +kernel
theorem dX11_ring_0 : decode cX11_ring 0 = .ok (.iload_n 1, 1) := by decide +kernel
theorem dX11_ring_1 : decode cX11_ring 1 = .ok (.ifCond .lt 21, 3) := by decide +kernel
theorem dX11_ring_4 : decode cX11_ring 4 = .ok (.iload_n 1, 1) := by decide +kernel
theorem dX11_ring_5 : decode cX11_ring 5 = .ok (.aload_n 0, 1) := by decide +kernel
theorem dX11_ring_6 : decode cX11_ring 6 = .ok (.getfield 105, 3) := by decide +kernel
theorem dX11_ring_9 : decode cX11_ring 9 = .ok (.arraylength, 1) := by decide +kernel
theorem dX11_ring_10 : decode cX11_ring 10 = .ok (.if_icmp .ge 12, 3) := by decide +kernel
theorem dX11_ring_13 : decode cX11_ring 13 = .ok (.aload_n 0, 1) := by decide +kernel
theorem dX11_ring_14 : decode cX11_ring 14 = .ok (.getfield 105, 3) := by decide +kernel
theorem dX11_ring_17 : decode cX11_ring 17 = .ok (.iload_n 1, 1) := by decide +kernel
theorem dX11_ring_18 : decode cX11_ring 18 = .ok (.laload, 1) := by decide +kernel
theorem dX11_ring_19 : decode cX11_ring 19 = .ok (.goto 6, 3) := by decide +kernel
theorem dX11_ring_22 : decode cX11_ring 22 = .ok (.ldc2_w 192, 3) := by decide +kernel
theorem dX11_ring_25 : decode cX11_ring 25 = .ok (.lreturn, 1) := by decide +kernel
theorem dX11_all_0 : decode cX11_all 0 = .ok (.aload_n 0, 1) := by decide +kernel
theorem dX11_all_1 : decode cX11_all 1 = .ok (.invokevirtual 264, 3) := by decide +kernel
theorem dX11_all_4 : decode cX11_all 4 = .ok (.ifCond .eq 10, 3) := by decide +kernel
theorem dX11_all_7 : decode cX11_all 7 = .ok (.iload_n 1, 1) := by decide +kernel
theorem dX11_all_8 : decode cX11_all 8 = .ok (.invokestatic 221, 3) := by decide +kernel
theorem dX11_all_11 : decode cX11_all 11 = .ok (.ifCond .ne 5, 3) := by decide +kernel
theorem dX11_all_14 : decode cX11_all 14 = .ok (.iconst (-1), 1) := by decide +kernel
theorem dX11_all_15 : decode cX11_all 15 = .ok (.ireturn, 1) := by decide +kernel
theorem dX11_all_16 : decode cX11_all 16 = .ok (.aload_n 0, 1) := by decide +kernel
theorem dX11_all_17 : decode cX11_all 17 = .ok (.getfield 87, 3) := by decide +kernel
theorem dX11_all_20 : decode cX11_all 20 = .ok (.iconst 0, 1) := by decide +kernel
theorem dX11_all_21 : decode cX11_all 21 = .ok (.putfield 267, 3) := by decide +kernel
theorem dX11_all_24 : decode cX11_all 24 = .ok (.lconst 1, 1) := by decide +kernel
theorem dX11_all_25 : decode cX11_all 25 = .ok (.aload_n 0, 1) := by decide +kernel
theorem dX11_all_26 : decode cX11_all 26 = .ok (.getfield 28, 3) := by decide +kernel
theorem dX11_all_29 : decode cX11_all 29 = .ok (.getfield 149, 3) := by decide +kernel
theorem dX11_all_32 : decode cX11_all 32 = .ok (.lshl, 1) := by decide +kernel
theorem dX11_all_33 : decode cX11_all 33 = .ok (.lstore_n 3, 1) := by decide +kernel
theorem dX11_all_34 : decode cX11_all 34 = .ok (.lconst 0, 1) := by decide +kernel
theorem dX11_all_35 : decode cX11_all 35 = .ok (.lstore 5, 2) := by decide +kernel
theorem dX11_all_37 : decode cX11_all 37 = .ok (.lload 5, 2) := by decide +kernel
theorem dX11_all_39 : decode cX11_all 39 = .ok (.lload_n 3, 1) := by decide +kernel
theorem dX11_all_40 : decode cX11_all 40 = .ok (.lcmp, 1) := by decide +kernel
theorem dX11_all_41 : decode cX11_all 41 = .ok (.ifCond .ge 47, 3) := by decide +kernel
theorem dX11_all_44 : decode cX11_all 44 = .ok (.aload_n 0, 1) := by decide +kernel
theorem dX11_all_45 : decode cX11_all 45 = .ok (.getfield 28, 3) := by decide +kernel
theorem dX11_all_48 : decode cX11_all 48 = .ok (.lload 5, 2) := by decide +kernel
theorem dX11_all_50 : decode cX11_all 50 = .ok (.invokevirtual 182, 3) := by decide +kernel
theorem dX11_all_53 : decode cX11_all 53 = .ok (.ifCond .eq 26, 3) := by decide +kernel
theorem dX11_all_56 : decode cX11_all 56 = .ok (.aload_n 0, 1) := by decide +kernel
theorem dX11_all_57 : decode cX11_all 57 = .ok (.getfield 62, 3) := by decide +kernel
theorem dX11_all_60 : decode cX11_all 60 = .ok (.lload 5, 2) := by decide +kernel
theorem dX11_all_62 : decode cX11_all 62 = .ok (.iload_n 1, 1) := by decide +kernel
theorem dX11_all_63 : decode cX11_all 63 = .ok (.iconst 0, 1) := by decide +kernel
theorem dX11_all_64 : decode cX11_all 64 = .ok (.invokevirtual 224, 3) := by decide +kernel
theorem dX11_all_67 : decode cX11_all 67 = .ok (.ifCond .ne 12, 3) := by decide +kernel
theorem dX11_all_70 : decode cX11_all 70 = .ok (.aload_n 0, 1) := by decide +kernel
theorem dX11_all_71 : decode cX11_all 71 = .ok (.getfield 87, 3) := by decide +kernel
theorem dX11_all_74 : decode cX11_all 74 = .ok (.lload 5, 2) := by decide +kernel
theorem dX11_all_76 : decode cX11_all 76 = .ok (.invokevirtual 270, 3) := by decide +kernel
theorem dX11_all_79 : decode cX11_all 79 = .ok (.lload 5, 2) := by decide +kernel
theorem dX11_all_81 : decode cX11_all 81 = .ok (.lconst 1, 1) := by decide +kernel
theorem dX11_all_82 : decode cX11_all 82 = .ok (.ladd, 1) := by decide +kernel
theorem dX11_all_83 : decode cX11_all 83 = .ok (.lstore 5, 2) := by decide +kernel
theorem dX11_all_85 : decode cX11_all 85 = .ok (.goto (-48), 3) := by decide +kernel
theorem dX11_all_88 : decode cX11_all 88 = .ok (.iload_n 2, 1) := by decide +kernel
theorem dX11_all_89 : decode cX11_all 89 = .ok (.ifCond .eq 7, 3) := by decide +kernel
theorem dX11_all_92 : decode cX11_all 92 = .ok (.aload_n 0, 1) := by decide +kernel
theorem dX11_all_93 : decode cX11_all 93 = .ok (.invokevirtual 273, 3) := by decide +kernel
theorem dX11_all_96 : decode cX11_all 96 = .ok (.aload_n 0, 1) := by decide +kernel
theorem dX11_all_97 : decode cX11_all 97 = .ok (.getfield 87, 3) := by decide +kernel
theorem dX11_all_100 : decode cX11_all 100 = .ok (.getfield 267, 3) := by decide +kernel
theorem dX11_all_103 : decode cX11_all 103 = .ok (.ireturn, 1) := by decide +kernel
theorem dX11_one_0 : decode cX11_one 0 = .ok (.aload_n 0, 1) := by decide +kernel
theorem dX11_one_1 : decode cX11_one 1 = .ok (.getfield 87, 3) := by decide +kernel
theorem dX11_one_4 : decode cX11_one 4 = .ok (.iload_n 1, 1) := by decide +kernel
theorem dX11_one_5 : decode cX11_one 5 = .ok (.invokevirtual 276, 3) := by decide +kernel
theorem dX11_one_8 : decode cX11_one 8 = .ok (.ifCond .eq 15, 3) := by decide +kernel
theorem dX11_one_11 : decode cX11_one 11 = .ok (.aload_n 0, 1) := by decide +kernel
theorem dX11_one_12 : decode cX11_one 12 = .ok (.getfield 87, 3) := by decide +kernel
theorem dX11_one_15 : decode cX11_one 15 = .ok (.getfield 279, 3) := by decide +kernel
theorem dX11_one_18 : decode cX11_one 18 = .ok (.iload_n 1, 1) := by decide +kernel
theorem dX11_one_19 : decode cX11_one 19 = .ok (.laload, 1) := by decide +kernel
theorem dX11_one_20 : decode cX11_one 20 = .ok (.goto 6, 3) := by decide +kernel
theorem dX11_one_23 : decode cX11_one 23 = .ok (.ldc2_w 192, 3) := by decide +kernel
theorem dX11_one_26 : decode cX11_one 26 = .ok (.lreturn, 1) := by decide +kernel
theorem dX11_best_0 : decode cX11_best 0 = .ok (.aload_n 0, 1) := by decide +kernel
theorem dX11_best_1 : decode cX11_best 1 = .ok (.invokevirtual 264, 3) := by decide +kernel
theorem dX11_best_4 : decode cX11_best 4 = .ok (.ifCond .eq 10, 3) := by decide +kernel
theorem dX11_best_7 : decode cX11_best 7 = .ok (.aload_n 0, 1) := by decide +kernel
theorem dX11_best_8 : decode cX11_best 8 = .ok (.invokevirtual 282, 3) := by decide +kernel
theorem dX11_best_11 : decode cX11_best 11 = .ok (.goto 6, 3) := by decide +kernel
theorem dX11_best_14 : decode cX11_best 14 = .ok (.ldc2_w 192, 3) := by decide +kernel
theorem dX11_best_17 : decode cX11_best 17 = .ok (.lreturn, 1) := by decide +kernel
theorem dX11_loss_0 : decode cX11_loss 0 = .ok (.aload_n 0, 1) := by decide +kernel
theorem dX11_loss_1 : decode cX11_loss 1 = .ok (.invokevirtual 264, 3) := by decide +kernel
theorem dX11_loss_4 : decode cX11_loss 4 = .ok (.ifCond .eq 10, 3) := by decide +kernel
theorem dX11_loss_7 : decode cX11_loss 7 = .ok (.iload_n 1, 1) := by decide +kernel
theorem dX11_loss_8 : decode cX11_loss 8 = .ok (.invokestatic 221, 3) := by decide +kernel
theorem dX11_loss_11 : decode cX11_loss 11 = .ok (.ifCond .ne 7, 3) := by decide +kernel
theorem dX11_loss_14 : decode cX11_loss 14 = .ok (.ldc2_w 192, 3) := by decide +kernel
theorem dX11_loss_17 : decode cX11_loss 17 = .ok (.lreturn, 1) := by decide +kernel
theorem dX11_loss_18 : decode cX11_loss 18 = .ok (.iconst 0, 1) := by decide +kernel
theorem dX11_loss_19 : decode cX11_loss 19 = .ok (.istore_n 3, 1) := by decide +kernel
theorem dX11_loss_20 : decode cX11_loss 20 = .ok (.lconst 0, 1) := by decide +kernel
theorem dX11_loss_21 : decode cX11_loss 21 = .ok (.lstore 4, 2) := by decide +kernel
theorem dX11_loss_23 : decode cX11_loss 23 = .ok (.lconst 1, 1) := by decide +kernel
theorem dX11_loss_24 : decode cX11_loss 24 = .ok (.aload_n 0, 1) := by decide +kernel
theorem dX11_loss_25 : decode cX11_loss 25 = .ok (.getfield 28, 3) := by decide +kernel
theorem dX11_loss_28 : decode cX11_loss 28 = .ok (.getfield 149, 3) := by decide +kernel
theorem dX11_loss_31 : decode cX11_loss 31 = .ok (.lshl, 1) := by decide +kernel
theorem dX11_loss_32 : decode cX11_loss 32 = .ok (.lstore 6, 2) := by decide +kernel
theorem dX11_loss_34 : decode cX11_loss 34 = .ok (.lconst 0, 1) := by decide +kernel
theorem dX11_loss_35 : decode cX11_loss 35 = .ok (.lstore 8, 2) := by decide +kernel
theorem dX11_loss_37 : decode cX11_loss 37 = .ok (.lload 8, 2) := by decide +kernel
theorem dX11_loss_39 : decode cX11_loss 39 = .ok (.lload 6, 2) := by decide +kernel
theorem dX11_loss_41 : decode cX11_loss 41 = .ok (.lcmp, 1) := by decide +kernel
theorem dX11_loss_42 : decode cX11_loss 42 = .ok (.ifCond .ge 82, 3) := by decide +kernel
theorem dX11_loss_45 : decode cX11_loss 45 = .ok (.aload_n 0, 1) := by decide +kernel
theorem dX11_loss_46 : decode cX11_loss 46 = .ok (.getfield 28, 3) := by decide +kernel
theorem dX11_loss_49 : decode cX11_loss 49 = .ok (.lload 8, 2) := by decide +kernel
theorem dX11_loss_51 : decode cX11_loss 51 = .ok (.invokevirtual 182, 3) := by decide +kernel
theorem dX11_loss_54 : decode cX11_loss 54 = .ok (.ifCond .eq 61, 3) := by decide +kernel
theorem dX11_loss_57 : decode cX11_loss 57 = .ok (.aload_n 0, 1) := by decide +kernel
theorem dX11_loss_58 : decode cX11_loss 58 = .ok (.getfield 62, 3) := by decide +kernel
theorem dX11_loss_61 : decode cX11_loss 61 = .ok (.lload 8, 2) := by decide +kernel
theorem dX11_loss_63 : decode cX11_loss 63 = .ok (.iload_n 1, 1) := by decide +kernel
theorem dX11_loss_64 : decode cX11_loss 64 = .ok (.iconst 0, 1) := by decide +kernel
theorem dX11_loss_65 : decode cX11_loss 65 = .ok (.invokevirtual 224, 3) := by decide +kernel
theorem dX11_loss_68 : decode cX11_loss 68 = .ok (.ifCond .ne 47, 3) := by decide +kernel
theorem dX11_loss_71 : decode cX11_loss 71 = .ok (.aload_n 0, 1) := by decide +kernel
theorem dX11_loss_72 : decode cX11_loss 72 = .ok (.getfield 53, 3) := by decide +kernel
theorem dX11_loss_75 : decode cX11_loss 75 = .ok (.lload 8, 2) := by decide +kernel
theorem dX11_loss_77 : decode cX11_loss 77 = .ok (.invokevirtual 201, 3) := by decide +kernel
theorem dX11_loss_80 : decode cX11_loss 80 = .ok (.lstore 10, 2) := by decide +kernel
theorem dX11_loss_82 : decode cX11_loss 82 = .ok (.iload_n 3, 1) := by decide +kernel
theorem dX11_loss_83 : decode cX11_loss 83 = .ok (.ifCond .eq 26, 3) := by decide +kernel
theorem dX11_loss_86 : decode cX11_loss 86 = .ok (.iload_n 2, 1) := by decide +kernel
theorem dX11_loss_87 : decode cX11_loss 87 = .ok (.ifCond .eq 14, 3) := by decide +kernel
theorem dX11_loss_90 : decode cX11_loss 90 = .ok (.lload 10, 2) := by decide +kernel
theorem dX11_loss_92 : decode cX11_loss 92 = .ok (.lload 4, 2) := by decide +kernel
theorem dX11_loss_94 : decode cX11_loss 94 = .ok (.lcmp, 1) := by decide +kernel
theorem dX11_loss_95 : decode cX11_loss 95 = .ok (.ifCond .ge 18, 3) := by decide +kernel
theorem dX11_loss_98 : decode cX11_loss 98 = .ok (.goto 11, 3) := by decide +kernel
theorem dX11_loss_101 : decode cX11_loss 101 = .ok (.lload 10, 2) := by decide +kernel
theorem dX11_loss_103 : decode cX11_loss 103 = .ok (.lload 4, 2) := by decide +kernel
theorem dX11_loss_105 : decode cX11_loss 105 = .ok (.lcmp, 1) := by decide +kernel
theorem dX11_loss_106 : decode cX11_loss 106 = .ok (.ifCond .le 7, 3) := by decide +kernel
theorem dX11_loss_109 : decode cX11_loss 109 = .ok (.lload 10, 2) := by decide +kernel
theorem dX11_loss_111 : decode cX11_loss 111 = .ok (.lstore 4, 2) := by decide +kernel
theorem dX11_loss_113 : decode cX11_loss 113 = .ok (.iconst 1, 1) := by decide +kernel
theorem dX11_loss_114 : decode cX11_loss 114 = .ok (.istore_n 3, 1) := by decide +kernel
theorem dX11_loss_115 : decode cX11_loss 115 = .ok (.lload 8, 2) := by decide +kernel
theorem dX11_loss_117 : decode cX11_loss 117 = .ok (.lconst 1, 1) := by decide +kernel
theorem dX11_loss_118 : decode cX11_loss 118 = .ok (.ladd, 1) := by decide +kernel
theorem dX11_loss_119 : decode cX11_loss 119 = .ok (.lstore 8, 2) := by decide +kernel
theorem dX11_loss_121 : decode cX11_loss 121 = .ok (.goto (-84), 3) := by decide +kernel
theorem dX11_loss_124 : decode cX11_loss 124 = .ok (.iload_n 3, 1) := by decide +kernel
theorem dX11_loss_125 : decode cX11_loss 125 = .ok (.ifCond .eq 20, 3) := by decide +kernel
theorem dX11_loss_128 : decode cX11_loss 128 = .ok (.aload_n 0, 1) := by decide +kernel
theorem dX11_loss_129 : decode cX11_loss 129 = .ok (.getfield 53, 3) := by decide +kernel
theorem dX11_loss_132 : decode cX11_loss 132 = .ok (.aload_n 0, 1) := by decide +kernel
theorem dX11_loss_133 : decode cX11_loss 133 = .ok (.invokevirtual 282, 3) := by decide +kernel
theorem dX11_loss_136 : decode cX11_loss 136 = .ok (.invokevirtual 201, 3) := by decide +kernel
theorem dX11_loss_139 : decode cX11_loss 139 = .ok (.lload 4, 2) := by decide +kernel
theorem dX11_loss_141 : decode cX11_loss 141 = .ok (.lsub, 1) := by decide +kernel
theorem dX11_loss_142 : decode cX11_loss 142 = .ok (.goto 6, 3) := by decide +kernel
theorem dX11_loss_145 : decode cX11_loss 145 = .ok (.ldc2_w 192, 3) := by decide +kernel
theorem dX11_loss_148 : decode cX11_loss 148 = .ok (.lreturn, 1) := by decide +kernel
theorem dX11_coming_0 : decode cX11_coming 0 = .ok (.aload_n 0, 1) := by decide +kernel
theorem dX11_coming_1 : decode cX11_coming 1 = .ok (.invokevirtual 264, 3) := by decide +kernel
theorem dX11_coming_4 : decode cX11_coming 4 = .ok (.ifCond .ne 5, 3) := by decide +kernel
theorem dX11_coming_7 : decode cX11_coming 7 = .ok (.iconst (-1), 1) := by decide +kernel
theorem dX11_coming_8 : decode cX11_coming 8 = .ok (.ireturn, 1) := by decide +kernel
theorem dX11_coming_9 : decode cX11_coming 9 = .ok (.aload_n 0, 1) := by decide +kernel
theorem dX11_coming_10 : decode cX11_coming 10 = .ok (.getfield 91, 3) := by decide +kernel
theorem dX11_coming_13 : decode cX11_coming 13 = .ok (.iconst 0, 1) := by decide +kernel
theorem dX11_coming_14 : decode cX11_coming 14 = .ok (.putfield 267, 3) := by decide +kernel
theorem dX11_coming_17 : decode cX11_coming 17 = .ok (.aload_n 0, 1) := by decide +kernel
theorem dX11_coming_18 : decode cX11_coming 18 = .ok (.getfield 78, 3) := by decide +kernel
theorem dX11_coming_21 : decode cX11_coming 21 = .ok (.aload_n 0, 1) := by decide +kernel
theorem dX11_coming_22 : decode cX11_coming 22 = .ok (.getfield 28, 3) := by decide +kernel
theorem dX11_coming_25 : decode cX11_coming 25 = .ok (.getfield 146, 3) := by decide +kernel
theorem dX11_coming_28 : decode cX11_coming 28 = .ok (.invokevirtual 285, 3) := by decide +kernel
theorem dX11_coming_31 : decode cX11_coming 31 = .ok (.iconst 1, 1) := by decide +kernel
theorem dX11_coming_32 : decode cX11_coming 32 = .ok (.istore_n 1, 1) := by decide +kernel
theorem dX11_coming_33 : decode cX11_coming 33 = .ok (.iconst 0, 1) := by decide +kernel
theorem dX11_coming_34 : decode cX11_coming 34 = .ok (.istore_n 2, 1) := by decide +kernel
theorem dX11_coming_35 : decode cX11_coming 35 = .ok (.iload_n 2, 1) := by decide +kernel
theorem dX11_coming_36 : decode cX11_coming 36 = .ok (.bipush 120, 2) := by decide +kernel
theorem dX11_coming_38 : decode cX11_coming 38 = .ok (.if_icmp .ge 32, 3) := by decide +kernel
theorem dX11_coming_41 : decode cX11_coming 41 = .ok (.iload_n 1, 1) := by decide +kernel
theorem dX11_coming_42 : decode cX11_coming 42 = .ok (.ifCond .eq 28, 3) := by decide +kernel
theorem dX11_coming_45 : decode cX11_coming 45 = .ok (.aload_n 0, 1) := by decide +kernel
theorem dX11_coming_46 : decode cX11_coming 46 = .ok (.getfield 91, 3) := by decide +kernel
theorem dX11_coming_49 : decode cX11_coming 49 = .ok (.aload_n 0, 1) := by decide +kernel
theorem dX11_coming_50 : decode cX11_coming 50 = .ok (.invokevirtual 288, 3) := by decide +kernel
theorem dX11_coming_53 : decode cX11_coming 53 = .ok (.invokevirtual 270, 3) := by decide +kernel
theorem dX11_coming_56 : decode cX11_coming 56 = .ok (.aload_n 0, 1) := by decide +kernel
theorem dX11_coming_57 : decode cX11_coming 57 = .ok (.getfield 78, 3) := by decide +kernel
theorem dX11_coming_60 : decode cX11_coming 60 = .ok (.invokevirtual 291, 3) := by decide +kernel
theorem dX11_coming_63 : decode cX11_coming 63 = .ok (.istore_n 1, 1) := by decide +kernel
theorem dX11_coming_64 : decode cX11_coming 64 = .ok (.iinc 2 1, 3) := by decide +kernel
theorem dX11_coming_67 : decode cX11_coming 67 = .ok (.goto (-32), 3) := by decide +kernel
theorem dX11_coming_70 : decode cX11_coming 70 = .ok (.aload_n 0, 1) := by decide +kernel
theorem dX11_coming_71 : decode cX11_coming 71 = .ok (.getfield 91, 3) := by decide +kernel
theorem dX11_coming_74 : decode cX11_coming 74 = .ok (.getfield 267, 3) := by decide +kernel
theorem dX11_coming_77 : decode cX11_coming 77 = .ok (.ireturn, 1) := by decide +kernel
theorem dX11_comes_0 : decode cX11_comes 0 = .ok (.aload_n 0, 1) := by decide +kernel
theorem dX11_comes_1 : decode cX11_comes 1 = .ok (.getfield 91, 3) := by decide +kernel
theorem dX11_comes_4 : decode cX11_comes 4 = .ok (.iload_n 1, 1) := by decide +kernel
theorem dX11_comes_5 : decode cX11_comes 5 = .ok (.invokevirtual 276, 3) := by decide +kernel
theorem dX11_comes_8 : decode cX11_comes 8 = .ok (.ifCond .ne 7, 3) := by decide +kernel
theorem dX11_comes_11 : decode cX11_comes 11 = .ok (.ldc2_w 192, 3) := by decide +kernel
theorem dX11_comes_14 : decode cX11_comes 14 = .ok (.lreturn, 1) := by decide +kernel
theorem dX11_comes_15 : decode cX11_comes 15 = .ok (.iload_n 2, 1) := by decide +kernel
theorem dX11_comes_16 : decode cX11_comes 16 = .ok (.ifCond .eq 16, 3) := by decide +kernel
theorem dX11_comes_19 : decode cX11_comes 19 = .ok (.aload_n 0, 1) := by decide +kernel
theorem dX11_comes_20 : decode cX11_comes 20 = .ok (.getfield 91, 3) := by decide +kernel
theorem dX11_comes_23 : decode cX11_comes 23 = .ok (.getfield 294, 3) := by decide +kernel
theorem dX11_comes_26 : decode cX11_comes 26 = .ok (.iload_n 1, 1) := by decide +kernel
theorem dX11_comes_27 : decode cX11_comes 27 = .ok (.iaload, 1) := by decide +kernel
theorem dX11_comes_28 : decode cX11_comes 28 = .ok (.i2l, 1) := by decide +kernel
theorem dX11_comes_29 : decode cX11_comes 29 = .ok (.goto 12, 3) := by decide +kernel
theorem dX11_comes_32 : decode cX11_comes 32 = .ok (.aload_n 0, 1) := by decide +kernel
theorem dX11_comes_33 : decode cX11_comes 33 = .ok (.getfield 91, 3) := by decide +kernel
theorem dX11_comes_36 : decode cX11_comes 36 = .ok (.getfield 279, 3) := by decide +kernel
theorem dX11_comes_39 : decode cX11_comes 39 = .ok (.iload_n 1, 1) := by decide +kernel
theorem dX11_comes_40 : decode cX11_comes 40 = .ok (.laload, 1) := by decide +kernel
theorem dX11_comes_41 : decode cX11_comes 41 = .ok (.lreturn, 1) := by decide +kernel
theorem dX11_gifts_0 : decode cX11_gifts 0 = .ok (.iload_n 1, 1) := by decide +kernel
theorem dX11_gifts_1 : decode cX11_gifts 1 = .ok (.iconst 2, 1) := by decide +kernel
theorem dX11_gifts_2 : decode cX11_gifts 2 = .ok (.if_icmp .ne 23, 3) := by decide +kernel
theorem dX11_gifts_5 : decode cX11_gifts 5 = .ok (.aload_n 0, 1) := by decide +kernel
theorem dX11_gifts_6 : decode cX11_gifts 6 = .ok (.getfield 62, 3) := by decide +kernel
theorem dX11_gifts_9 : decode cX11_gifts 9 = .ok (.aload_n 0, 1) := by decide +kernel
theorem dX11_gifts_10 : decode cX11_gifts 10 = .ok (.getfield 159, 3) := by decide +kernel
theorem dX11_gifts_13 : decode cX11_gifts 13 = .ok (.invokevirtual 297, 3) := by decide +kernel
theorem dX11_gifts_16 : decode cX11_gifts 16 = .ok (.ifCond .eq 7, 3) := by decide +kernel
theorem dX11_gifts_19 : decode cX11_gifts 19 = .ok (.lconst 0, 1) := by decide +kernel
theorem dX11_gifts_20 : decode cX11_gifts 20 = .ok (.goto 4, 3) := by decide +kernel
