theorem dX0_init_0 : decode cX0_init 0 = .ok (.aload_n 0, 1) := by decide +kernel
theorem dX0_init_1 : decode cX0_init 1 = .ok (.invokespecial 3, 3) := by decide +kernel
theorem dX0_init_4 : decode cX0_init 4 = .ok (.aload_n 0, 1) := by decide +kernel
theorem dX0_init_5 : decode cX0_init 5 = .ok (.bipush 32, 2) := by decide +kernel
theorem dX0_init_7 : decode cX0_init 7 = .ok (.newarray .long, 2) := by decide +kernel
theorem dX0_init_9 : decode cX0_init 9 = .ok (.putfield 11, 3) := by decide +kernel
theorem dX0_init_12 : decode cX0_init 12 = .ok (.aload_n 0, 1) := by decide +kernel
theorem dX0_init_13 : decode cX0_init 13 = .ok (.bipush 32, 2) := by decide +kernel
theorem dX0_init_15 : decode cX0_init 15 = .ok (.newarray .long, 2) := by decide +kernel
theorem dX0_init_17 : decode cX0_init 17 = .ok (.putfield 15, 3) := by decide +kernel
theorem dX0_init_20 : decode cX0_init 20 = .ok (.aload_n 0, 1) := by decide +kernel
theorem dX0_init_21 : decode cX0_init 21 = .ok (.bipush 10, 2) := by decide +kernel
theorem dX0_init_23 : decode cX0_init 23 = .ok (.newarray .long, 2) := by decide +kernel
theorem dX0_init_25 : decode cX0_init 25 = .ok (.putfield 18, 3) := by decide +kernel
theorem dX0_init_28 : decode cX0_init 28 = .ok (.aload_n 0, 1) := by decide +kernel
theorem dX0_init_29 : decode cX0_init 29 = .ok (.aload_n 1, 1) := by decide +kernel
theorem dX0_init_30 : decode cX0_init 30 = .ok (.putfield 21, 3) := by decide +kernel
theorem dX0_init_33 : decode cX0_init 33 = .ok (.aload_n 0, 1) := by decide +kernel
theorem dX0_init_34 : decode cX0_init 34 = .ok (.aload_n 1, 1) := by decide +kernel
theorem dX0_init_35 : decode cX0_init 35 = .ok (.getfield 25, 3) := by decide +kernel
theorem dX0_init_38 : decode cX0_init 38 = .ok (.putfield 31, 3) := by decide +kernel
theorem dX0_init_41 : decode cX0_init 41 = .ok (.aload_n 0, 1) := by decide +kernel
theorem dX0_init_42 : decode cX0_init 42 = .ok (.aload_n 2, 1) := by decide +kernel
theorem dX0_init_43 : decode cX0_init 43 = .ok (.putfield 32, 3) := by decide +kernel
theorem dX0_init_46 : decode cX0_init 46 = .ok (.iconst 0, 1) := by decide +kernel
theorem dX0_init_47 : decode cX0_init 47 = .ok (.istore_n 3, 1) := by decide +kernel
theorem dX0_init_48 : decode cX0_init 48 = .ok (.iload_n 3, 1) := by decide +kernel
theorem dX0_init_49 : decode cX0_init 49 = .ok (.bipush 32, 2) := by decide +kernel
theorem dX0_init_51 : decode cX0_init 51 = .ok (.if_icmp .ge 104, 3) := by decide +kernel
theorem dX0_init_54 : decode cX0_init 54 = .ok (.iconst 0, 1) := by decide +kernel
theorem dX0_init_55 : decode cX0_init 55 = .ok (.istore 4, 2) := by decide +kernel
theorem dX0_init_57 : decode cX0_init 57 = .ok (.iload 4, 2) := by decide +kernel
theorem dX0_init_59 : decode cX0_init 59 = .ok (.iconst 5, 1) := by decide +kernel
theorem dX0_init_60 : decode cX0_init 60 = .ok (.invokestatic 36, 3) := by decide +kernel
theorem dX0_init_63 : decode cX0_init 63 = .ok (.if_icmp .ge 86, 3) := by decide +kernel
theorem dX0_init_66 : decode cX0_init 66 = .ok (.iload_n 3, 1) := by decide +kernel
theorem dX0_init_67 : decode cX0_init 67 = .ok (.aload_n 0, 1) := by decide +kernel
theorem dX0_init_68 : decode cX0_init 68 = .ok (.getfield 31, 3) := by decide +kernel
theorem dX0_init_71 : decode cX0_init 71 = .ok (.getfield 42, 3) := by decide +kernel
theorem dX0_init_74 : decode cX0_init 74 = .ok (.iload 4, 2) := by decide +kernel
theorem dX0_init_76 : decode cX0_init 76 = .ok (.iaload, 1) := by decide +kernel
theorem dX0_init_77 : decode cX0_init 77 = .ok (.ishr, 1) := by decide +kernel
theorem dX0_init_78 : decode cX0_init 78 = .ok (.iconst 1, 1) := by decide +kernel
theorem dX0_init_79 : decode cX0_init 79 = .ok (.iand, 1) := by decide +kernel
theorem dX0_init_80 : decode cX0_init 80 = .ok (.iload_n 3, 1) := by decide +kernel
theorem dX0_init_81 : decode cX0_init 81 = .ok (.aload_n 0, 1) := by decide +kernel
theorem dX0_init_82 : decode cX0_init 82 = .ok (.getfield 31, 3) := by decide +kernel
theorem dX0_init_85 : decode cX0_init 85 = .ok (.getfield 46, 3) := by decide +kernel
theorem dX0_init_88 : decode cX0_init 88 = .ok (.iload 4, 2) := by decide +kernel
theorem dX0_init_90 : decode cX0_init 90 = .ok (.iaload, 1) := by decide +kernel
theorem dX0_init_91 : decode cX0_init 91 = .ok (.ishr, 1) := by decide +kernel
theorem dX0_init_92 : decode cX0_init 92 = .ok (.iconst 1, 1) := by decide +kernel
theorem dX0_init_93 : decode cX0_init 93 = .ok (.iand, 1) := by decide +kernel
theorem dX0_init_94 : decode cX0_init 94 = .ok (.iadd, 1) := by decide +kernel
theorem dX0_init_95 : decode cX0_init 95 = .ok (.istore 5, 2) := by decide +kernel
theorem dX0_init_97 : decode cX0_init 97 = .ok (.aload_n 0, 1) := by decide +kernel
theorem dX0_init_98 : decode cX0_init 98 = .ok (.getfield 11, 3) := by decide +kernel
theorem dX0_init_101 : decode cX0_init 101 = .ok (.iload_n 3, 1) := by decide +kernel
theorem dX0_init_102 : decode cX0_init 102 = .ok (.dup2, 1) := by decide +kernel
theorem dX0_init_103 : decode cX0_init 103 = .ok (.laload, 1) := by decide +kernel
theorem dX0_init_104 : decode cX0_init 104 = .ok (.iload 5, 2) := by decide +kernel
theorem dX0_init_106 : decode cX0_init 106 = .ok (.iconst 2, 1) := by decide +kernel
theorem dX0_init_107 : decode cX0_init 107 = .ok (.if_icmp .ne 10, 3) := by decide +kernel
theorem dX0_init_110 : decode cX0_init 110 = .ok (.lconst 1, 1) := by decide +kernel
theorem dX0_init_111 : decode cX0_init 111 = .ok (.iload 4, 2) := by decide +kernel
theorem dX0_init_113 : decode cX0_init 113 = .ok (.lshl, 1) := by decide +kernel
theorem dX0_init_114 : decode cX0_init 114 = .ok (.goto 4, 3) := by decide +kernel
theorem dX0_init_117 : decode cX0_init 117 = .ok (.lconst 0, 1) := by decide +kernel
theorem dX0_init_118 : decode cX0_init 118 = .ok (.lor, 1) := by decide +kernel
theorem dX0_init_119 : decode cX0_init 119 = .ok (.lastore, 1) := by decide +kernel
theorem dX0_init_120 : decode cX0_init 120 = .ok (.aload_n 0, 1) := by decide +kernel
theorem dX0_init_121 : decode cX0_init 121 = .ok (.getfield 15, 3) := by decide +kernel
theorem dX0_init_124 : decode cX0_init 124 = .ok (.iload_n 3, 1) := by decide +kernel
theorem dX0_init_125 : decode cX0_init 125 = .ok (.dup2, 1) := by decide +kernel
theorem dX0_init_126 : decode cX0_init 126 = .ok (.laload, 1) := by decide +kernel
theorem dX0_init_127 : decode cX0_init 127 = .ok (.iload 5, 2) := by decide +kernel
theorem dX0_init_129 : decode cX0_init 129 = .ok (.iconst 1, 1) := by decide +kernel
theorem dX0_init_130 : decode cX0_init 130 = .ok (.if_icmp .lt 10, 3) := by decide +kernel
theorem dX0_init_133 : decode cX0_init 133 = .ok (.lconst 1, 1) := by decide +kernel
theorem dX0_init_134 : decode cX0_init 134 = .ok (.iload 4, 2) := by decide +kernel
theorem dX0_init_136 : decode cX0_init 136 = .ok (.lshl, 1) := by decide +kernel
theorem dX0_init_137 : decode cX0_init 137 = .ok (.goto 4, 3) := by decide +kernel
theorem dX0_init_140 : decode cX0_init 140 = .ok (.lconst 0, 1) := by decide +kernel
theorem dX0_init_141 : decode cX0_init 141 = .ok (.lor, 1) := by decide +kernel
theorem dX0_init_142 : decode cX0_init 142 = .ok (.lastore, 1) := by decide +kernel
theorem dX0_init_143 : decode cX0_init 143 = .ok (.iinc 4 1, 3) := by decide +kernel
theorem dX0_init_146 : decode cX0_init 146 = .ok (.goto (-89), 3) := by decide +kernel
theorem dX0_init_149 : decode cX0_init 149 = .ok (.iinc 3 1, 3) := by decide +kernel
theorem dX0_init_152 : decode cX0_init 152 = .ok (.goto (-104), 3) := by decide +kernel
theorem dX0_init_155 : decode cX0_init 155 = .ok (.return_, 1) := by decide +kernel
theorem dX0_endRest_0 : decode cX0_endRest 0 = .ok (.iload_n 3, 1) := by decide +kernel
theorem dX0_endRest_1 : decode cX0_endRest 1 = .ok (.tableswitch 168 0 5 #[39, 45, 67, 97, 127, 133], 39) := by decide +kernel
theorem dX0_endRest_40 : decode cX0_endRest 40 = .ok (.aload_n 0, 1) := by decide +kernel
theorem dX0_endRest_41 : decode cX0_endRest 41 = .ok (.lload_n 1, 1) := by decide +kernel
theorem dX0_endRest_42 : decode cX0_endRest 42 = .ok (.invokevirtual 49, 3) := by decide +kernel
theorem dX0_endRest_45 : decode cX0_endRest 45 = .ok (.ireturn, 1) := by decide +kernel
theorem dX0_endRest_46 : decode cX0_endRest 46 = .ok (.aload_n 0, 1) := by decide +kernel
theorem dX0_endRest_47 : decode cX0_endRest 47 = .ok (.lload_n 1, 1) := by decide +kernel
theorem dX0_endRest_48 : decode cX0_endRest 48 = .ok (.invokevirtual 49, 3) := by decide +kernel
theorem dX0_endRest_51 : decode cX0_endRest 51 = .ok (.ifCond .ne 11, 3) := by decide +kernel
theorem dX0_endRest_54 : decode cX0_endRest 54 = .ok (.aload_n 0, 1) := by decide +kernel
theorem dX0_endRest_55 : decode cX0_endRest 55 = .ok (.lload_n 1, 1) := by decide +kernel
theorem dX0_endRest_56 : decode cX0_endRest 56 = .ok (.invokevirtual 53, 3) := by decide +kernel
theorem dX0_endRest_59 : decode cX0_endRest 59 = .ok (.ifCond .eq 7, 3) := by decide +kernel
theorem dX0_endRest_62 : decode cX0_endRest 62 = .ok (.iconst 1, 1) := by decide +kernel
theorem dX0_endRest_63 : decode cX0_endRest 63 = .ok (.goto 4, 3) := by decide +kernel
theorem dX0_endRest_66 : decode cX0_endRest 66 = .ok (.iconst 0, 1) := by decide +kernel
theorem dX0_endRest_67 : decode cX0_endRest 67 = .ok (.ireturn, 1) := by decide +kernel
theorem dX0_endRest_68 : decode cX0_endRest 68 = .ok (.aload_n 0, 1) := by decide +kernel
theorem dX0_endRest_69 : decode cX0_endRest 69 = .ok (.lload_n 1, 1) := by decide +kernel
theorem dX0_endRest_70 : decode cX0_endRest 70 = .ok (.invokevirtual 49, 3) := by decide +kernel
theorem dX0_endRest_73 : decode cX0_endRest 73 = .ok (.ifCond .ne 19, 3) := by decide +kernel
theorem dX0_endRest_76 : decode cX0_endRest 76 = .ok (.aload_n 0, 1) := by decide +kernel
theorem dX0_endRest_77 : decode cX0_endRest 77 = .ok (.lload_n 1, 1) := by decide +kernel
theorem dX0_endRest_78 : decode cX0_endRest 78 = .ok (.invokevirtual 53, 3) := by decide +kernel
theorem dX0_endRest_81 : decode cX0_endRest 81 = .ok (.ifCond .ne 11, 3) := by decide +kernel
theorem dX0_endRest_84 : decode cX0_endRest 84 = .ok (.aload_n 0, 1) := by decide +kernel
theorem dX0_endRest_85 : decode cX0_endRest 85 = .ok (.lload_n 1, 1) := by decide +kernel
theorem dX0_endRest_86 : decode cX0_endRest 86 = .ok (.invokevirtual 56, 3) := by decide +kernel
theorem dX0_endRest_89 : decode cX0_endRest 89 = .ok (.ifCond .eq 7, 3) := by decide +kernel
theorem dX0_endRest_92 : decode cX0_endRest 92 = .ok (.iconst 1, 1) := by decide +kernel
theorem dX0_endRest_93 : decode cX0_endRest 93 = .ok (.goto 4, 3) := by decide +kernel
theorem dX0_endRest_96 : decode cX0_endRest 96 = .ok (.iconst 0, 1) := by decide +kernel
theorem dX0_endRest_97 : decode cX0_endRest 97 = .ok (.ireturn, 1) := by decide +kernel
theorem dX0_endRest_98 : decode cX0_endRest 98 = .ok (.aload_n 0, 1) := by decide +kernel
theorem dX0_endRest_99 : decode cX0_endRest 99 = .ok (.lload_n 1, 1) := by decide +kernel
theorem dX0_endRest_100 : decode cX0_endRest 100 = .ok (.invokevirtual 49, 3) := by decide +kernel
theorem dX0_endRest_103 : decode cX0_endRest 103 = .ok (.ifCond .ne 19, 3) := by decide +kernel
theorem dX0_endRest_106 : decode cX0_endRest 106 = .ok (.aload_n 0, 1) := by decide +kernel
theorem dX0_endRest_107 : decode cX0_endRest 107 = .ok (.lload_n 1, 1) := by decide +kernel
theorem dX0_endRest_108 : decode cX0_endRest 108 = .ok (.invokevirtual 53, 3) := by decide +kernel
theorem dX0_endRest_111 : decode cX0_endRest 111 = .ok (.ifCond .ne 11, 3) := by decide +kernel
theorem dX0_endRest_114 : decode cX0_endRest 114 = .ok (.aload_n 0, 1) := by decide +kernel
theorem dX0_endRest_115 : decode cX0_endRest 115 = .ok (.lload_n 1, 1) := by decide +kernel
theorem dX0_endRest_116 : decode cX0_endRest 116 = .ok (.invokevirtual 59, 3) := by decide +kernel
theorem dX0_endRest_119 : decode cX0_endRest 119 = .ok (.ifCond .eq 7, 3) := by decide +kernel
theorem dX0_endRest_122 : decode cX0_endRest 122 = .ok (.iconst 1, 1) := by decide +kernel
theorem dX0_endRest_123 : decode cX0_endRest 123 = .ok (.goto 4, 3) := by decide +kernel
theorem dX0_endRest_126 : decode cX0_endRest 126 = .ok (.iconst 0, 1) := by decide +kernel
theorem dX0_endRest_127 : decode cX0_endRest 127 = .ok (.ireturn, 1) := by decide +kernel
theorem dX0_endRest_128 : decode cX0_endRest 128 = .ok (.aload_n 0, 1) := by decide +kernel
theorem dX0_endRest_129 : decode cX0_endRest 129 = .ok (.lload_n 1, 1) := by decide +kernel
theorem dX0_endRest_130 : decode cX0_endRest 130 = .ok (.invokevirtual 62, 3) := by decide +kernel
theorem dX0_endRest_133 : decode cX0_endRest 133 = .ok (.ireturn, 1) := by decide +kernel
theorem dX0_endRest_134 : decode cX0_endRest 134 = .ok (.iload 4, 2) := by decide +kernel
theorem dX0_endRest_136 : decode cX0_endRest 136 = .ok (.ifCond .ne 19, 3) := by decide +kernel
theorem dX0_endRest_139 : decode cX0_endRest 139 = .ok (.aload_n 0, 1) := by decide +kernel
theorem dX0_endRest_140 : decode cX0_endRest 140 = .ok (.lload_n 1, 1) := by decide +kernel
theorem dX0_endRest_141 : decode cX0_endRest 141 = .ok (.invokevirtual 49, 3) := by decide +kernel
theorem dX0_endRest_144 : decode cX0_endRest 144 = .ok (.ifCond .ne 19, 3) := by decide +kernel
theorem dX0_endRest_147 : decode cX0_endRest 147 = .ok (.aload_n 0, 1) := by decide +kernel
theorem dX0_endRest_148 : decode cX0_endRest 148 = .ok (.lload_n 1, 1) := by decide +kernel
theorem dX0_endRest_149 : decode cX0_endRest 149 = .ok (.invokevirtual 65, 3) := by decide +kernel
theorem dX0_endRest_152 : decode cX0_endRest 152 = .ok (.ifCond .ne 11, 3) := by decide +kernel
theorem dX0_endRest_155 : decode cX0_endRest 155 = .ok (.aload_n 0, 1) := by decide +kernel
theorem dX0_endRest_156 : decode cX0_endRest 156 = .ok (.lload_n 1, 1) := by decide +kernel
theorem dX0_endRest_157 : decode cX0_endRest 157 = .ok (.invokevirtual 68, 3) := by decide +kernel
theorem dX0_endRest_160 : decode cX0_endRest 160 = .ok (.ifCond .eq 7, 3) := by decide +kernel
theorem dX0_endRest_163 : decode cX0_endRest 163 = .ok (.iconst 1, 1) := by decide +kernel
theorem dX0_endRest_164 : decode cX0_endRest 164 = .ok (.goto 4, 3) := by decide +kernel
theorem dX0_endRest_167 : decode cX0_endRest 167 = .ok (.iconst 0, 1) := by decide +kernel
theorem dX0_endRest_168 : decode cX0_endRest 168 = .ok (.ireturn, 1) := by decide +kernel
theorem dX0_endRest_169 : decode cX0_endRest 169 = .ok (.iconst 0, 1) := by decide +kernel
theorem dX0_endRest_170 : decode cX0_endRest 170 = .ok (.ireturn, 1) := by decide +kernel
theorem dX0_moves_0 : decode cX0_moves 0 = .ok (.lload_n 1, 1) := by decide +kernel
theorem dX0_moves_1 : decode cX0_moves 1 = .ok (.lconst 1, 1) := by decide +kernel
theorem dX0_moves_2 : decode cX0_moves 2 = .ok (.iload_n 3, 1) := by decide +kernel
theorem dX0_moves_3 : decode cX0_moves 3 = .ok (.lshl, 1) := by decide +kernel
theorem dX0_moves_4 : decode cX0_moves 4 = .ok (.lxor, 1) := by decide +kernel
theorem dX0_moves_5 : decode cX0_moves 5 = .ok (.lstore 4, 2) := by decide +kernel
theorem dX0_moves_7 : decode cX0_moves 7 = .ok (.lload 4, 2) := by decide +kernel
theorem dX0_moves_9 : decode cX0_moves 9 = .ok (.lload_n 1, 1) := by decide +kernel
theorem dX0_moves_10 : decode cX0_moves 10 = .ok (.lcmp, 1) := by decide +kernel
theorem dX0_moves_11 : decode cX0_moves 11 = .ok (.ifCond .ge 7, 3) := by decide +kernel
theorem dX0_moves_14 : decode cX0_moves 14 = .ok (.iconst 1, 1) := by decide +kernel
theorem dX0_moves_15 : decode cX0_moves 15 = .ok (.goto 4, 3) := by decide +kernel
theorem dX0_moves_18 : decode cX0_moves 18 = .ok (.iconst 0, 1) := by decide +kernel
theorem dX0_moves_19 : decode cX0_moves 19 = .ok (.istore 6, 2) := by decide +kernel
theorem dX0_moves_21 : decode cX0_moves 21 = .ok (.iload 6, 2) := by decide +kernel
theorem dX0_moves_23 : decode cX0_moves 23 = .ok (.ifCond .ne 17, 3) := by decide +kernel
theorem dX0_moves_26 : decode cX0_moves 26 = .ok (.aload_n 0, 1) := by decide +kernel
theorem dX0_moves_27 : decode cX0_moves 27 = .ok (.getfield 21, 3) := by decide +kernel
theorem dX0_moves_30 : decode cX0_moves 30 = .ok (.lload 4, 2) := by decide +kernel
theorem dX0_moves_32 : decode cX0_moves 32 = .ok (.invokevirtual 71, 3) := by decide +kernel
theorem dX0_moves_35 : decode cX0_moves 35 = .ok (.ifCond .ne 5, 3) := by decide +kernel
theorem dX0_moves_38 : decode cX0_moves 38 = .ok (.iconst 0, 1) := by decide +kernel
theorem dX0_moves_39 : decode cX0_moves 39 = .ok (.ireturn, 1) := by decide +kernel
theorem dX0_moves_40 : decode cX0_moves 40 = .ok (.aload_n 0, 1) := by decide +kernel
theorem dX0_moves_41 : decode cX0_moves 41 = .ok (.getfield 32, 3) := by decide +kernel
theorem dX0_moves_44 : decode cX0_moves 44 = .ok (.lload 4, 2) := by decide +kernel
theorem dX0_moves_46 : decode cX0_moves 46 = .ok (.aload_n 0, 1) := by decide +kernel
theorem dX0_moves_47 : decode cX0_moves 47 = .ok (.getfield 31, 3) := by decide +kernel
theorem dX0_moves_50 : decode cX0_moves 50 = .ok (.getfield 42, 3) := by decide +kernel
theorem dX0_moves_53 : decode cX0_moves 53 = .ok (.iload_n 3, 1) := by decide +kernel
theorem dX0_moves_54 : decode cX0_moves 54 = .ok (.iaload, 1) := by decide +kernel
theorem dX0_moves_55 : decode cX0_moves 55 = .ok (.invokevirtual 74, 3) := by decide +kernel
theorem dX0_moves_58 : decode cX0_moves 58 = .ok (.aload_n 0, 1) := by decide +kernel
theorem dX0_moves_59 : decode cX0_moves 59 = .ok (.getfield 32, 3) := by decide +kernel
theorem dX0_moves_62 : decode cX0_moves 62 = .ok (.lload_n 1, 1) := by decide +kernel
theorem dX0_moves_63 : decode cX0_moves 63 = .ok (.aload_n 0, 1) := by decide +kernel
theorem dX0_moves_64 : decode cX0_moves 64 = .ok (.getfield 31, 3) := by decide +kernel
theorem dX0_moves_67 : decode cX0_moves 67 = .ok (.getfield 42, 3) := by decide +kernel
theorem dX0_moves_70 : decode cX0_moves 70 = .ok (.iload_n 3, 1) := by decide +kernel
theorem dX0_moves_71 : decode cX0_moves 71 = .ok (.iaload, 1) := by decide +kernel
theorem dX0_moves_72 : decode cX0_moves 72 = .ok (.invokevirtual 74, 3) := by decide +kernel
theorem dX0_moves_75 : decode cX0_moves 75 = .ok (.lsub, 1) := by decide +kernel
theorem dX0_moves_76 : decode cX0_moves 76 = .ok (.lstore 7, 2) := by decide +kernel
theorem dX0_moves_78 : decode cX0_moves 78 = .ok (.iload 6, 2) := by decide +kernel
theorem dX0_moves_80 : decode cX0_moves 80 = .ok (.ifCond .eq 13, 3) := by decide +kernel
theorem dX0_moves_83 : decode cX0_moves 83 = .ok (.lload 7, 2) := by decide +kernel
theorem dX0_moves_85 : decode cX0_moves 85 = .ok (.lconst 0, 1) := by decide +kernel
theorem dX0_moves_86 : decode cX0_moves 86 = .ok (.lcmp, 1) := by decide +kernel
theorem dX0_moves_87 : decode cX0_moves 87 = .ok (.ifCond .le 16, 3) := by decide +kernel
theorem dX0_moves_90 : decode cX0_moves 90 = .ok (.goto 10, 3) := by decide +kernel
theorem dX0_moves_93 : decode cX0_moves 93 = .ok (.lload 7, 2) := by decide +kernel
theorem dX0_moves_95 : decode cX0_moves 95 = .ok (.lconst 0, 1) := by decide +kernel
theorem dX0_moves_96 : decode cX0_moves 96 = .ok (.lcmp, 1) := by decide +kernel
theorem dX0_moves_97 : decode cX0_moves 97 = .ok (.ifCond .ge 6, 3) := by decide +kernel
theorem dX0_moves_100 : decode cX0_moves 100 = .ok (.iload 6, 2) := by decide +kernel
theorem dX0_moves_102 : decode cX0_moves 102 = .ok (.ireturn, 1) := by decide +kernel
theorem dX0_moves_103 : decode cX0_moves 103 = .ok (.aload_n 0, 1) := by decide +kernel
theorem dX0_moves_104 : decode cX0_moves 104 = .ok (.getfield 32, 3) := by decide +kernel
theorem dX0_moves_107 : decode cX0_moves 107 = .ok (.lload 4, 2) := by decide +kernel
theorem dX0_moves_109 : decode cX0_moves 109 = .ok (.aload_n 0, 1) := by decide +kernel
theorem dX0_moves_110 : decode cX0_moves 110 = .ok (.getfield 31, 3) := by decide +kernel
theorem dX0_moves_113 : decode cX0_moves 113 = .ok (.getfield 46, 3) := by decide +kernel
theorem dX0_moves_116 : decode cX0_moves 116 = .ok (.iload_n 3, 1) := by decide +kernel
theorem dX0_moves_117 : decode cX0_moves 117 = .ok (.iaload, 1) := by decide +kernel
theorem dX0_moves_118 : decode cX0_moves 118 = .ok (.invokevirtual 74, 3) := by decide +kernel
theorem dX0_moves_121 : decode cX0_moves 121 = .ok (.aload_n 0, 1) := by decide +kernel
theorem dX0_moves_122 : decode cX0_moves 122 = .ok (.getfield 32, 3) := by decide +kernel
theorem dX0_moves_125 : decode cX0_moves 125 = .ok (.lload_n 1, 1) := by decide +kernel
theorem dX0_moves_126 : decode cX0_moves 126 = .ok (.aload_n 0, 1) := by decide +kernel
theorem dX0_moves_127 : decode cX0_moves 127 = .ok (.getfield 31, 3) := by decide +kernel
theorem dX0_moves_130 : decode cX0_moves 130 = .ok (.getfield 46, 3) := by decide +kernel
theorem dX0_moves_133 : decode cX0_moves 133 = .ok (.iload_n 3, 1) := by decide +kernel
theorem dX0_moves_134 : decode cX0_moves 134 = .ok (.iaload, 1) := by decide +kernel
theorem dX0_moves_135 : decode cX0_moves 135 = .ok (.invokevirtual 74, 3) := by decide +kernel
theorem dX0_moves_138 : decode cX0_moves 138 = .ok (.lsub, 1) := by decide +kernel
theorem dX0_moves_139 : decode cX0_moves 139 = .ok (.lstore 9, 2) := by decide +kernel
theorem dX0_moves_141 : decode cX0_moves 141 = .ok (.iload 6, 2) := by decide +kernel
theorem dX0_moves_143 : decode cX0_moves 143 = .ok (.ifCond .eq 18, 3) := by decide +kernel
theorem dX0_moves_146 : decode cX0_moves 146 = .ok (.lload 9, 2) := by decide +kernel
theorem dX0_moves_148 : decode cX0_moves 148 = .ok (.lconst 0, 1) := by decide +kernel
theorem dX0_moves_149 : decode cX0_moves 149 = .ok (.lcmp, 1) := by decide +kernel
theorem dX0_moves_150 : decode cX0_moves 150 = .ok (.ifCond .le 7, 3) := by decide +kernel
theorem dX0_moves_153 : decode cX0_moves 153 = .ok (.iconst 1, 1) := by decide +kernel
theorem dX0_moves_154 : decode cX0_moves 154 = .ok (.goto 33, 3) := by decide +kernel
theorem dX0_moves_157 : decode cX0_moves 157 = .ok (.iconst 0, 1) := by decide +kernel
theorem dX0_moves_158 : decode cX0_moves 158 = .ok (.goto 29, 3) := by decide +kernel
theorem dX0_moves_161 : decode cX0_moves 161 = .ok (.lload 9, 2) := by decide +kernel
theorem dX0_moves_163 : decode cX0_moves 163 = .ok (.lconst 0, 1) := by decide +kernel
theorem dX0_moves_164 : decode cX0_moves 164 = .ok (.lcmp, 1) := by decide +kernel
theorem dX0_moves_165 : decode cX0_moves 165 = .ok (.ifCond .lt 21, 3) := by decide +kernel
theorem dX0_moves_168 : decode cX0_moves 168 = .ok (.lload 7, 2) := by decide +kernel
theorem dX0_moves_170 : decode cX0_moves 170 = .ok (.lconst 0, 1) := by decide +kernel
theorem dX0_moves_171 : decode cX0_moves 171 = .ok (.lcmp, 1) := by decide +kernel
theorem dX0_moves_172 : decode cX0_moves 172 = .ok (.ifCond .gt 10, 3) := by decide +kernel
theorem dX0_moves_175 : decode cX0_moves 175 = .ok (.lload 9, 2) := by decide +kernel
theorem dX0_moves_177 : decode cX0_moves 177 = .ok (.lconst 0, 1) := by decide +kernel
theorem dX0_moves_178 : decode cX0_moves 178 = .ok (.lcmp, 1) := by decide +kernel
theorem dX0_moves_179 : decode cX0_moves 179 = .ok (.ifCond .le 7, 3) := by decide +kernel
theorem dX0_moves_182 : decode cX0_moves 182 = .ok (.iconst 1, 1) := by decide +kernel
theorem dX0_moves_183 : decode cX0_moves 183 = .ok (.goto 4, 3) := by decide +kernel
theorem dX0_moves_186 : decode cX0_moves 186 = .ok (.iconst 0, 1) := by decide +kernel
theorem dX0_moves_187 : decode cX0_moves 187 = .ok (.ireturn, 1) := by decide +kernel
theorem dX0_firstAdd_0 : decode cX0_firstAdd 0 = .ok (.iconst 0, 1) := by decide +kernel
theorem dX0_firstAdd_1 : decode cX0_firstAdd 1 = .ok (.istore_n 3, 1) := by decide +kernel
theorem dX0_firstAdd_2 : decode cX0_firstAdd 2 = .ok (.iload_n 3, 1) := by decide +kernel
theorem dX0_firstAdd_3 : decode cX0_firstAdd 3 = .ok (.aload_n 0, 1) := by decide +kernel
theorem dX0_firstAdd_4 : decode cX0_firstAdd 4 = .ok (.getfield 21, 3) := by decide +kernel
theorem dX0_firstAdd_7 : decode cX0_firstAdd 7 = .ok (.getfield 80, 3) := by decide +kernel
theorem dX0_firstAdd_10 : decode cX0_firstAdd 10 = .ok (.if_icmp .ge 44, 3) := by decide +kernel
theorem dX0_firstAdd_13 : decode cX0_firstAdd 13 = .ok (.lload_n 1, 1) := by decide +kernel
theorem dX0_firstAdd_14 : decode cX0_firstAdd 14 = .ok (.iload_n 3, 1) := by decide +kernel
theorem dX0_firstAdd_15 : decode cX0_firstAdd 15 = .ok (.lshr, 1) := by decide +kernel
theorem dX0_firstAdd_16 : decode cX0_firstAdd 16 = .ok (.lconst 1, 1) := by decide +kernel
theorem dX0_firstAdd_17 : decode cX0_firstAdd 17 = .ok (.land, 1) := by decide +kernel
theorem dX0_firstAdd_18 : decode cX0_firstAdd 18 = .ok (.lconst 0, 1) := by decide +kernel
theorem dX0_firstAdd_19 : decode cX0_firstAdd 19 = .ok (.lcmp, 1) := by decide +kernel
theorem dX0_firstAdd_20 : decode cX0_firstAdd 20 = .ok (.ifCond .ne 28, 3) := by decide +kernel
theorem dX0_firstAdd_23 : decode cX0_firstAdd 23 = .ok (.aload_n 0, 1) := by decide +kernel
theorem dX0_firstAdd_24 : decode cX0_firstAdd 24 = .ok (.lload_n 1, 1) := by decide +kernel
theorem dX0_firstAdd_25 : decode cX0_firstAdd 25 = .ok (.iload_n 3, 1) := by decide +kernel
theorem dX0_firstAdd_26 : decode cX0_firstAdd 26 = .ok (.invokevirtual 84, 3) := by decide +kernel
theorem dX0_firstAdd_29 : decode cX0_firstAdd 29 = .ok (.ifCond .eq 19, 3) := by decide +kernel
theorem dX0_firstAdd_32 : decode cX0_firstAdd 32 = .ok (.aload_n 0, 1) := by decide +kernel
theorem dX0_firstAdd_33 : decode cX0_firstAdd 33 = .ok (.iconst 1, 1) := by decide +kernel
theorem dX0_firstAdd_34 : decode cX0_firstAdd 34 = .ok (.aload_n 0, 1) := by decide +kernel
theorem dX0_firstAdd_35 : decode cX0_firstAdd 35 = .ok (.iload_n 3, 1) := by decide +kernel
theorem dX0_firstAdd_36 : decode cX0_firstAdd 36 = .ok (.invokevirtual 88, 3) := by decide +kernel
theorem dX0_firstAdd_39 : decode cX0_firstAdd 39 = .ok (.lload_n 1, 1) := by decide +kernel
theorem dX0_firstAdd_40 : decode cX0_firstAdd 40 = .ok (.lconst 1, 1) := by decide +kernel
theorem dX0_firstAdd_41 : decode cX0_firstAdd 41 = .ok (.iload_n 3, 1) := by decide +kernel
theorem dX0_firstAdd_42 : decode cX0_firstAdd 42 = .ok (.lshl, 1) := by decide +kernel
theorem dX0_firstAdd_43 : decode cX0_firstAdd 43 = .ok (.lor, 1) := by decide +kernel
theorem dX0_firstAdd_44 : decode cX0_firstAdd 44 = .ok (.invokevirtual 91, 3) := by decide +kernel
theorem dX0_firstAdd_47 : decode cX0_firstAdd 47 = .ok (.ireturn, 1) := by decide +kernel
theorem dX0_firstAdd_48 : decode cX0_firstAdd 48 = .ok (.iinc 3 1, 3) := by decide +kernel
theorem dX0_firstAdd_51 : decode cX0_firstAdd 51 = .ok (.goto (-49), 3) := by decide +kernel
theorem dX0_firstAdd_54 : decode cX0_firstAdd 54 = .ok (.iconst 0, 1) := by decide +kernel
theorem dX0_firstAdd_55 : decode cX0_firstAdd 55 = .ok (.ireturn, 1) := by decide +kernel
theorem dX0_found_0 : decode cX0_found 0 = .ok (.aload_n 0, 1) := by decide +kernel
theorem dX0_found_1 : decode cX0_found 1 = .ok (.iload_n 1, 1) := by decide +kernel
theorem dX0_found_2 : decode cX0_found 2 = .ok (.putfield 95, 3) := by decide +kernel
theorem dX0_found_5 : decode cX0_found 5 = .ok (.aload_n 0, 1) := by decide +kernel
theorem dX0_found_6 : decode cX0_found 6 = .ok (.iload_n 2, 1) := by decide +kernel
theorem dX0_found_7 : decode cX0_found 7 = .ok (.putfield 98, 3) := by decide +kernel
theorem dX0_found_10 : decode cX0_found 10 = .ok (.aload_n 0, 1) := by decide +kernel
theorem dX0_found_11 : decode cX0_found 11 = .ok (.lload_n 3, 1) := by decide +kernel
theorem dX0_found_12 : decode cX0_found 12 = .ok (.putfield 101, 3) := by decide +kernel
theorem dX0_found_15 : decode cX0_found 15 = .ok (.iconst 1, 1) := by decide +kernel
theorem dX0_found_16 : decode cX0_found 16 = .ok (.ireturn, 1) := by decide +kernel
theorem dX0_bothOf_0 : decode cX0_bothOf 0 = .ok (.iconst 1, 1) := by decide +kernel
theorem dX0_bothOf_1 : decode cX0_bothOf 1 = .ok (.aload_n 0, 1) := by decide +kernel
theorem dX0_bothOf_2 : decode cX0_bothOf 2 = .ok (.getfield 31, 3) := by decide +kernel
theorem dX0_bothOf_5 : decode cX0_bothOf 5 = .ok (.getfield 42, 3) := by decide +kernel
theorem dX0_bothOf_8 : decode cX0_bothOf 8 = .ok (.iload_n 1, 1) := by decide +kernel
theorem dX0_bothOf_9 : decode cX0_bothOf 9 = .ok (.iaload, 1) := by decide +kernel
theorem dX0_bothOf_10 : decode cX0_bothOf 10 = .ok (.ishl, 1) := by decide +kernel
theorem dX0_bothOf_11 : decode cX0_bothOf 11 = .ok (.iconst 1, 1) := by decide +kernel
theorem dX0_bothOf_12 : decode cX0_bothOf 12 = .ok (.aload_n 0, 1) := by decide +kernel
theorem dX0_bothOf_13 : decode cX0_bothOf 13 = .ok (.getfield 31, 3) := by decide +kernel
theorem dX0_bothOf_16 : decode cX0_bothOf 16 = .ok (.getfield 46, 3) := by decide +kernel
theorem dX0_bothOf_19 : decode cX0_bothOf 19 = .ok (.iload_n 1, 1) := by decide +kernel
theorem dX0_bothOf_20 : decode cX0_bothOf 20 = .ok (.iaload, 1) := by decide +kernel
theorem dX0_bothOf_21 : decode cX0_bothOf 21 = .ok (.ishl, 1) := by decide +kernel
theorem dX0_bothOf_22 : decode cX0_bothOf 22 = .ok (.ior, 1) := by decide +kernel
theorem dX0_bothOf_23 : decode cX0_bothOf 23 = .ok (.ireturn, 1) := by decide +kernel
theorem dX0_gains_0 : decode cX0_gains 0 = .ok (.aload_n 0, 1) := by decide +kernel
theorem dX0_gains_1 : decode cX0_gains 1 = .ok (.getfield 32, 3) := by decide +kernel
theorem dX0_gains_4 : decode cX0_gains 4 = .ok (.lload_n 3, 1) := by decide +kernel
theorem dX0_gains_5 : decode cX0_gains 5 = .ok (.iload 5, 2) := by decide +kernel
theorem dX0_gains_7 : decode cX0_gains 7 = .ok (.invokevirtual 74, 3) := by decide +kernel
theorem dX0_gains_10 : decode cX0_gains 10 = .ok (.aload_n 0, 1) := by decide +kernel
theorem dX0_gains_11 : decode cX0_gains 11 = .ok (.getfield 32, 3) := by decide +kernel
theorem dX0_gains_14 : decode cX0_gains 14 = .ok (.lload_n 1, 1) := by decide +kernel
theorem dX0_gains_15 : decode cX0_gains 15 = .ok (.iload 5, 2) := by decide +kernel
theorem dX0_gains_17 : decode cX0_gains 17 = .ok (.invokevirtual 74, 3) := by decide +kernel
theorem dX0_gains_20 : decode cX0_gains 20 = .ok (.lcmp, 1) := by decide +kernel
theorem dX0_gains_21 : decode cX0_gains 21 = .ok (.ifCond .le 7, 3) := by decide +kernel
theorem dX0_gains_24 : decode cX0_gains 24 = .ok (.iconst 1, 1) := by decide +kernel
theorem dX0_gains_25 : decode cX0_gains 25 = .ok (.goto 4, 3) := by decide +kernel
theorem dX0_gains_28 : decode cX0_gains 28 = .ok (.iconst 0, 1) := by decide +kernel
theorem dX0_gains_29 : decode cX0_gains 29 = .ok (.ireturn, 1) := by decide +kernel
theorem dX0_firstCut_0 : decode cX0_firstCut 0 = .ok (.iconst 0, 1) := by decide +kernel
theorem dX0_firstCut_1 : decode cX0_firstCut 1 = .ok (.istore_n 3, 1) := by decide +kernel
theorem dX0_firstCut_2 : decode cX0_firstCut 2 = .ok (.iload_n 3, 1) := by decide +kernel
theorem dX0_firstCut_3 : decode cX0_firstCut 3 = .ok (.aload_n 0, 1) := by decide +kernel
theorem dX0_firstCut_4 : decode cX0_firstCut 4 = .ok (.getfield 21, 3) := by decide +kernel
theorem dX0_firstCut_7 : decode cX0_firstCut 7 = .ok (.getfield 80, 3) := by decide +kernel
theorem dX0_firstCut_10 : decode cX0_firstCut 10 = .ok (.if_icmp .ge 106, 3) := by decide +kernel
theorem dX0_firstCut_13 : decode cX0_firstCut 13 = .ok (.lload_n 1, 1) := by decide +kernel
theorem dX0_firstCut_14 : decode cX0_firstCut 14 = .ok (.iload_n 3, 1) := by decide +kernel
theorem dX0_firstCut_15 : decode cX0_firstCut 15 = .ok (.lshr, 1) := by decide +kernel
theorem dX0_firstCut_16 : decode cX0_firstCut 16 = .ok (.lconst 1, 1) := by decide +kernel
theorem dX0_firstCut_17 : decode cX0_firstCut 17 = .ok (.land, 1) := by decide +kernel
theorem dX0_firstCut_18 : decode cX0_firstCut 18 = .ok (.lconst 0, 1) := by decide +kernel
theorem dX0_firstCut_19 : decode cX0_firstCut 19 = .ok (.lcmp, 1) := by decide +kernel
theorem dX0_firstCut_20 : decode cX0_firstCut 20 = .ok (.ifCond .eq 90, 3) := by decide +kernel
theorem dX0_firstCut_23 : decode cX0_firstCut 23 = .ok (.lload_n 1, 1) := by decide +kernel
theorem dX0_firstCut_24 : decode cX0_firstCut 24 = .ok (.lconst 1, 1) := by decide +kernel
theorem dX0_firstCut_25 : decode cX0_firstCut 25 = .ok (.iload_n 3, 1) := by decide +kernel
theorem dX0_firstCut_26 : decode cX0_firstCut 26 = .ok (.lshl, 1) := by decide +kernel
theorem dX0_firstCut_27 : decode cX0_firstCut 27 = .ok (.ldc2_w 105, 3) := by decide +kernel
theorem dX0_firstCut_30 : decode cX0_firstCut 30 = .ok (.lxor, 1) := by decide +kernel
theorem dX0_firstCut_31 : decode cX0_firstCut 31 = .ok (.land, 1) := by decide +kernel
theorem dX0_firstCut_32 : decode cX0_firstCut 32 = .ok (.lstore 4, 2) := by decide +kernel
theorem dX0_firstCut_34 : decode cX0_firstCut 34 = .ok (.aload_n 0, 1) := by decide +kernel
theorem dX0_firstCut_35 : decode cX0_firstCut 35 = .ok (.lload_n 1, 1) := by decide +kernel
theorem dX0_firstCut_36 : decode cX0_firstCut 36 = .ok (.lload 4, 2) := by decide +kernel
theorem dX0_firstCut_38 : decode cX0_firstCut 38 = .ok (.aload_n 0, 1) := by decide +kernel
theorem dX0_firstCut_39 : decode cX0_firstCut 39 = .ok (.getfield 31, 3) := by decide +kernel
theorem dX0_firstCut_42 : decode cX0_firstCut 42 = .ok (.getfield 42, 3) := by decide +kernel
theorem dX0_firstCut_45 : decode cX0_firstCut 45 = .ok (.iload_n 3, 1) := by decide +kernel
theorem dX0_firstCut_46 : decode cX0_firstCut 46 = .ok (.iaload, 1) := by decide +kernel
theorem dX0_firstCut_47 : decode cX0_firstCut 47 = .ok (.invokevirtual 107, 3) := by decide +kernel
theorem dX0_firstCut_50 : decode cX0_firstCut 50 = .ok (.ifCond .eq 22, 3) := by decide +kernel
theorem dX0_firstCut_53 : decode cX0_firstCut 53 = .ok (.aload_n 0, 1) := by decide +kernel
theorem dX0_firstCut_54 : decode cX0_firstCut 54 = .ok (.iconst 0, 1) := by decide +kernel
theorem dX0_firstCut_55 : decode cX0_firstCut 55 = .ok (.iconst 1, 1) := by decide +kernel
theorem dX0_firstCut_56 : decode cX0_firstCut 56 = .ok (.aload_n 0, 1) := by decide +kernel
theorem dX0_firstCut_57 : decode cX0_firstCut 57 = .ok (.getfield 31, 3) := by decide +kernel
theorem dX0_firstCut_60 : decode cX0_firstCut 60 = .ok (.getfield 42, 3) := by decide +kernel
theorem dX0_firstCut_63 : decode cX0_firstCut 63 = .ok (.iload_n 3, 1) := by decide +kernel
theorem dX0_firstCut_64 : decode cX0_firstCut 64 = .ok (.iaload, 1) := by decide +kernel
theorem dX0_firstCut_65 : decode cX0_firstCut 65 = .ok (.ishl, 1) := by decide +kernel
theorem dX0_firstCut_66 : decode cX0_firstCut 66 = .ok (.lload 4, 2) := by decide +kernel
theorem dX0_firstCut_68 : decode cX0_firstCut 68 = .ok (.invokevirtual 91, 3) := by decide +kernel
theorem dX0_firstCut_71 : decode cX0_firstCut 71 = .ok (.ireturn, 1) := by decide +kernel
theorem dX0_firstCut_72 : decode cX0_firstCut 72 = .ok (.aload_n 0, 1) := by decide +kernel
theorem dX0_firstCut_73 : decode cX0_firstCut 73 = .ok (.lload_n 1, 1) := by decide +kernel
theorem dX0_firstCut_74 : decode cX0_firstCut 74 = .ok (.lload 4, 2) := by decide +kernel
theorem dX0_firstCut_76 : decode cX0_firstCut 76 = .ok (.aload_n 0, 1) := by decide +kernel
theorem dX0_firstCut_77 : decode cX0_firstCut 77 = .ok (.getfield 31, 3) := by decide +kernel
theorem dX0_firstCut_80 : decode cX0_firstCut 80 = .ok (.getfield 46, 3) := by decide +kernel
theorem dX0_firstCut_83 : decode cX0_firstCut 83 = .ok (.iload_n 3, 1) := by decide +kernel
theorem dX0_firstCut_84 : decode cX0_firstCut 84 = .ok (.iaload, 1) := by decide +kernel
theorem dX0_firstCut_85 : decode cX0_firstCut 85 = .ok (.invokevirtual 107, 3) := by decide +kernel
theorem dX0_firstCut_88 : decode cX0_firstCut 88 = .ok (.ifCond .eq 22, 3) := by decide +kernel
theorem dX0_firstCut_91 : decode cX0_firstCut 91 = .ok (.aload_n 0, 1) := by decide +kernel
theorem dX0_firstCut_92 : decode cX0_firstCut 92 = .ok (.iconst 0, 1) := by decide +kernel
theorem dX0_firstCut_93 : decode cX0_firstCut 93 = .ok (.iconst 1, 1) := by decide +kernel
theorem dX0_firstCut_94 : decode cX0_firstCut 94 = .ok (.aload_n 0, 1) := by decide +kernel
theorem dX0_firstCut_95 : decode cX0_firstCut 95 = .ok (.getfield 31, 3) := by decide +kernel
theorem dX0_firstCut_98 : decode cX0_firstCut 98 = .ok (.getfield 46, 3) := by decide +kernel
theorem dX0_firstCut_101 : decode cX0_firstCut 101 = .ok (.iload_n 3, 1) := by decide +kernel
theorem dX0_firstCut_102 : decode cX0_firstCut 102 = .ok (.iaload, 1) := by decide +kernel
theorem dX0_firstCut_103 : decode cX0_firstCut 103 = .ok (.ishl, 1) := by decide +kernel
theorem dX0_firstCut_104 : decode cX0_firstCut 104 = .ok (.lload 4, 2) := by decide +kernel
theorem dX0_firstCut_106 : decode cX0_firstCut 106 = .ok (.invokevirtual 91, 3) := by decide +kernel
theorem dX0_firstCut_109 : decode cX0_firstCut 109 = .ok (.ireturn, 1) := by decide +kernel
theorem dX0_firstCut_110 : decode cX0_firstCut 110 = .ok (.iinc 3 1, 3) := by decide +kernel
theorem dX0_firstCut_113 : decode cX0_firstCut 113 = .ok (.goto (-111), 3) := by decide +kernel
theorem dX0_firstCut_116 : decode cX0_firstCut 116 = .ok (.iconst 0, 1) := by decide +kernel
theorem dX0_firstCut_117 : decode cX0_firstCut 117 = .ok (.ireturn, 1) := by decide +kernel
theorem dX0_firstBothGain_0 : decode cX0_firstBothGain 0 = .ok (.iconst 0, 1) := by decide +kernel
theorem dX0_firstBothGain_1 : decode cX0_firstBothGain 1 = .ok (.istore_n 3, 1) := by decide +kernel
theorem dX0_firstBothGain_2 : decode cX0_firstBothGain 2 = .ok (.iload_n 3, 1) := by decide +kernel
theorem dX0_firstBothGain_3 : decode cX0_firstBothGain 3 = .ok (.aload_n 0, 1) := by decide +kernel
theorem dX0_firstBothGain_4 : decode cX0_firstBothGain 4 = .ok (.getfield 21, 3) := by decide +kernel
theorem dX0_firstBothGain_7 : decode cX0_firstBothGain 7 = .ok (.getfield 80, 3) := by decide +kernel
theorem dX0_firstBothGain_10 : decode cX0_firstBothGain 10 = .ok (.if_icmp .ge 86, 3) := by decide +kernel
theorem dX0_firstBothGain_13 : decode cX0_firstBothGain 13 = .ok (.lload_n 1, 1) := by decide +kernel
theorem dX0_firstBothGain_14 : decode cX0_firstBothGain 14 = .ok (.lconst 1, 1) := by decide +kernel
theorem dX0_firstBothGain_15 : decode cX0_firstBothGain 15 = .ok (.iload_n 3, 1) := by decide +kernel
theorem dX0_firstBothGain_16 : decode cX0_firstBothGain 16 = .ok (.lshl, 1) := by decide +kernel
theorem dX0_firstBothGain_17 : decode cX0_firstBothGain 17 = .ok (.lor, 1) := by decide +kernel
theorem dX0_firstBothGain_18 : decode cX0_firstBothGain 18 = .ok (.lstore 4, 2) := by decide +kernel
theorem dX0_firstBothGain_20 : decode cX0_firstBothGain 20 = .ok (.lload 4, 2) := by decide +kernel
theorem dX0_firstBothGain_22 : decode cX0_firstBothGain 22 = .ok (.lload_n 1, 1) := by decide +kernel
theorem dX0_firstBothGain_23 : decode cX0_firstBothGain 23 = .ok (.lcmp, 1) := by decide +kernel
theorem dX0_firstBothGain_24 : decode cX0_firstBothGain 24 = .ok (.ifCond .eq 66, 3) := by decide +kernel
theorem dX0_firstBothGain_27 : decode cX0_firstBothGain 27 = .ok (.aload_n 0, 1) := by decide +kernel
theorem dX0_firstBothGain_28 : decode cX0_firstBothGain 28 = .ok (.lload_n 1, 1) := by decide +kernel
theorem dX0_firstBothGain_29 : decode cX0_firstBothGain 29 = .ok (.lload 4, 2) := by decide +kernel
theorem dX0_firstBothGain_31 : decode cX0_firstBothGain 31 = .ok (.aload_n 0, 1) := by decide +kernel
theorem dX0_firstBothGain_32 : decode cX0_firstBothGain 32 = .ok (.getfield 31, 3) := by decide +kernel
theorem dX0_firstBothGain_35 : decode cX0_firstBothGain 35 = .ok (.getfield 42, 3) := by decide +kernel
theorem dX0_firstBothGain_38 : decode cX0_firstBothGain 38 = .ok (.iload_n 3, 1) := by decide +kernel
theorem dX0_firstBothGain_39 : decode cX0_firstBothGain 39 = .ok (.iaload, 1) := by decide +kernel
theorem dX0_firstBothGain_40 : decode cX0_firstBothGain 40 = .ok (.invokevirtual 107, 3) := by decide +kernel
theorem dX0_firstBothGain_43 : decode cX0_firstBothGain 43 = .ok (.ifCond .eq 47, 3) := by decide +kernel
theorem dX0_firstBothGain_46 : decode cX0_firstBothGain 46 = .ok (.aload_n 0, 1) := by decide +kernel
theorem dX0_firstBothGain_47 : decode cX0_firstBothGain 47 = .ok (.lload_n 1, 1) := by decide +kernel
theorem dX0_firstBothGain_48 : decode cX0_firstBothGain 48 = .ok (.lload 4, 2) := by decide +kernel
theorem dX0_firstBothGain_50 : decode cX0_firstBothGain 50 = .ok (.aload_n 0, 1) := by decide +kernel
theorem dX0_firstBothGain_51 : decode cX0_firstBothGain 51 = .ok (.getfield 31, 3) := by decide +kernel
theorem dX0_firstBothGain_54 : decode cX0_firstBothGain 54 = .ok (.getfield 46, 3) := by decide +kernel
theorem dX0_firstBothGain_57 : decode cX0_firstBothGain 57 = .ok (.iload_n 3, 1) := by decide +kernel
theorem dX0_firstBothGain_58 : decode cX0_firstBothGain 58 = .ok (.iaload, 1) := by decide +kernel
theorem dX0_firstBothGain_59 : decode cX0_firstBothGain 59 = .ok (.invokevirtual 107, 3) := by decide +kernel
theorem dX0_firstBothGain_62 : decode cX0_firstBothGain 62 = .ok (.ifCond .eq 28, 3) := by decide +kernel
theorem dX0_firstBothGain_65 : decode cX0_firstBothGain 65 = .ok (.aload_n 0, 1) := by decide +kernel
theorem dX0_firstBothGain_66 : decode cX0_firstBothGain 66 = .ok (.getfield 21, 3) := by decide +kernel
theorem dX0_firstBothGain_69 : decode cX0_firstBothGain 69 = .ok (.lload 4, 2) := by decide +kernel
theorem dX0_firstBothGain_71 : decode cX0_firstBothGain 71 = .ok (.invokevirtual 71, 3) := by decide +kernel
theorem dX0_firstBothGain_74 : decode cX0_firstBothGain 74 = .ok (.ifCond .eq 16, 3) := by decide +kernel
theorem dX0_firstBothGain_77 : decode cX0_firstBothGain 77 = .ok (.aload_n 0, 1) := by decide +kernel
theorem dX0_firstBothGain_78 : decode cX0_firstBothGain 78 = .ok (.iconst 5, 1) := by decide +kernel
theorem dX0_firstBothGain_79 : decode cX0_firstBothGain 79 = .ok (.aload_n 0, 1) := by decide +kernel
theorem dX0_firstBothGain_80 : decode cX0_firstBothGain 80 = .ok (.iload_n 3, 1) := by decide +kernel
theorem dX0_firstBothGain_81 : decode cX0_firstBothGain 81 = .ok (.invokevirtual 88, 3) := by decide +kernel
theorem dX0_firstBothGain_84 : decode cX0_firstBothGain 84 = .ok (.lload 4, 2) := by decide +kernel
theorem dX0_firstBothGain_86 : decode cX0_firstBothGain 86 = .ok (.invokevirtual 91, 3) := by decide +kernel
theorem dX0_firstBothGain_89 : decode cX0_firstBothGain 89 = .ok (.ireturn, 1) := by decide +kernel
theorem dX0_firstBothGain_90 : decode cX0_firstBothGain 90 = .ok (.iinc 3 1, 3) := by decide +kernel
theorem dX0_firstBothGain_93 : decode cX0_firstBothGain 93 = .ok (.goto (-91), 3) := by decide +kernel
theorem dX0_firstBothGain_96 : decode cX0_firstBothGain 96 = .ok (.iconst 0, 1) := by decide +kernel
theorem dX0_firstBothGain_97 : decode cX0_firstBothGain 97 = .ok (.ireturn, 1) := by decide +kernel
theorem dX0_firstSeveral_0 : decode cX0_firstSeveral 0 = .ok (.iconst 0, 1) := by decide +kernel
theorem dX0_firstSeveral_1 : decode cX0_firstSeveral 1 = .ok (.istore_n 3, 1) := by decide +kernel
theorem dX0_firstSeveral_2 : decode cX0_firstSeveral 2 = .ok (.iload_n 3, 1) := by decide +kernel
theorem dX0_firstSeveral_3 : decode cX0_firstSeveral 3 = .ok (.aload_n 0, 1) := by decide +kernel
theorem dX0_firstSeveral_4 : decode cX0_firstSeveral 4 = .ok (.getfield 21, 3) := by decide +kernel
theorem dX0_firstSeveral_7 : decode cX0_firstSeveral 7 = .ok (.getfield 111, 3) := by decide +kernel
theorem dX0_firstSeveral_10 : decode cX0_firstSeveral 10 = .ok (.if_icmp .ge 107, 3) := by decide +kernel
theorem dX0_firstSeveral_13 : decode cX0_firstSeveral 13 = .ok (.lload_n 1, 1) := by decide +kernel
theorem dX0_firstSeveral_14 : decode cX0_firstSeveral 14 = .ok (.aload_n 0, 1) := by decide +kernel
theorem dX0_firstSeveral_15 : decode cX0_firstSeveral 15 = .ok (.getfield 31, 3) := by decide +kernel
theorem dX0_firstSeveral_18 : decode cX0_firstSeveral 18 = .ok (.getfield 114, 3) := by decide +kernel
theorem dX0_firstSeveral_21 : decode cX0_firstSeveral 21 = .ok (.iload_n 3, 1) := by decide +kernel
theorem dX0_firstSeveral_22 : decode cX0_firstSeveral 22 = .ok (.laload, 1) := by decide +kernel
theorem dX0_firstSeveral_23 : decode cX0_firstSeveral 23 = .ok (.land, 1) := by decide +kernel
theorem dX0_firstSeveral_24 : decode cX0_firstSeveral 24 = .ok (.lstore 4, 2) := by decide +kernel
theorem dX0_firstSeveral_26 : decode cX0_firstSeveral 26 = .ok (.lload 4, 2) := by decide +kernel
theorem dX0_firstSeveral_28 : decode cX0_firstSeveral 28 = .ok (.lneg, 1) := by decide +kernel
theorem dX0_firstSeveral_29 : decode cX0_firstSeveral 29 = .ok (.lload 4, 2) := by decide +kernel
theorem dX0_firstSeveral_31 : decode cX0_firstSeveral 31 = .ok (.land, 1) := by decide +kernel
theorem dX0_firstSeveral_32 : decode cX0_firstSeveral 32 = .ok (.lstore 6, 2) := by decide +kernel
theorem dX0_firstSeveral_34 : decode cX0_firstSeveral 34 = .ok (.iconst 0, 1) := by decide +kernel
theorem dX0_firstSeveral_35 : decode cX0_firstSeveral 35 = .ok (.istore 8, 2) := by decide +kernel
theorem dX0_firstSeveral_37 : decode cX0_firstSeveral 37 = .ok (.iload 8, 2) := by decide +kernel
theorem dX0_firstSeveral_39 : decode cX0_firstSeveral 39 = .ok (.sipush 512, 3) := by decide +kernel
theorem dX0_firstSeveral_42 : decode cX0_firstSeveral 42 = .ok (.if_icmp .ge 69, 3) := by decide +kernel
theorem dX0_firstSeveral_45 : decode cX0_firstSeveral 45 = .ok (.lload 6, 2) := by decide +kernel
theorem dX0_firstSeveral_47 : decode cX0_firstSeveral 47 = .ok (.lconst 0, 1) := by decide +kernel
theorem dX0_firstSeveral_48 : decode cX0_firstSeveral 48 = .ok (.lcmp, 1) := by decide +kernel
theorem dX0_firstSeveral_49 : decode cX0_firstSeveral 49 = .ok (.ifCond .eq 62, 3) := by decide +kernel
theorem dX0_firstSeveral_52 : decode cX0_firstSeveral 52 = .ok (.lload 6, 2) := by decide +kernel
theorem dX0_firstSeveral_54 : decode cX0_firstSeveral 54 = .ok (.invokestatic 117, 3) := by decide +kernel
theorem dX0_firstSeveral_57 : decode cX0_firstSeveral 57 = .ok (.iconst 2, 1) := by decide +kernel
theorem dX0_firstSeveral_58 : decode cX0_firstSeveral 58 = .ok (.if_icmp .lt 37, 3) := by decide +kernel
theorem dX0_firstSeveral_61 : decode cX0_firstSeveral 61 = .ok (.aload_n 0, 1) := by decide +kernel
theorem dX0_firstSeveral_62 : decode cX0_firstSeveral 62 = .ok (.lload_n 1, 1) := by decide +kernel
theorem dX0_firstSeveral_63 : decode cX0_firstSeveral 63 = .ok (.lload_n 1, 1) := by decide +kernel
theorem dX0_firstSeveral_64 : decode cX0_firstSeveral 64 = .ok (.lload 6, 2) := by decide +kernel
theorem dX0_firstSeveral_66 : decode cX0_firstSeveral 66 = .ok (.ldc2_w 105, 3) := by decide +kernel
theorem dX0_firstSeveral_69 : decode cX0_firstSeveral 69 = .ok (.lxor, 1) := by decide +kernel
theorem dX0_firstSeveral_70 : decode cX0_firstSeveral 70 = .ok (.land, 1) := by decide +kernel
theorem dX0_firstSeveral_71 : decode cX0_firstSeveral 71 = .ok (.iload_n 3, 1) := by decide +kernel
theorem dX0_firstSeveral_72 : decode cX0_firstSeveral 72 = .ok (.invokevirtual 107, 3) := by decide +kernel
theorem dX0_firstSeveral_75 : decode cX0_firstSeveral 75 = .ok (.ifCond .eq 20, 3) := by decide +kernel
theorem dX0_firstSeveral_78 : decode cX0_firstSeveral 78 = .ok (.aload_n 0, 1) := by decide +kernel
theorem dX0_firstSeveral_79 : decode cX0_firstSeveral 79 = .ok (.iconst 2, 1) := by decide +kernel
theorem dX0_firstSeveral_80 : decode cX0_firstSeveral 80 = .ok (.iconst 1, 1) := by decide +kernel
theorem dX0_firstSeveral_81 : decode cX0_firstSeveral 81 = .ok (.iload_n 3, 1) := by decide +kernel
theorem dX0_firstSeveral_82 : decode cX0_firstSeveral 82 = .ok (.ishl, 1) := by decide +kernel
theorem dX0_firstSeveral_83 : decode cX0_firstSeveral 83 = .ok (.lload_n 1, 1) := by decide +kernel
theorem dX0_firstSeveral_84 : decode cX0_firstSeveral 84 = .ok (.lload 6, 2) := by decide +kernel
theorem dX0_firstSeveral_86 : decode cX0_firstSeveral 86 = .ok (.ldc2_w 105, 3) := by decide +kernel
theorem dX0_firstSeveral_89 : decode cX0_firstSeveral 89 = .ok (.lxor, 1) := by decide +kernel
theorem dX0_firstSeveral_90 : decode cX0_firstSeveral 90 = .ok (.land, 1) := by decide +kernel
theorem dX0_firstSeveral_91 : decode cX0_firstSeveral 91 = .ok (.invokevirtual 91, 3) := by decide +kernel
theorem dX0_firstSeveral_94 : decode cX0_firstSeveral 94 = .ok (.ireturn, 1) := by decide +kernel
theorem dX0_firstSeveral_95 : decode cX0_firstSeveral 95 = .ok (.lload 6, 2) := by decide +kernel
theorem dX0_firstSeveral_97 : decode cX0_firstSeveral 97 = .ok (.lload 4, 2) := by decide +kernel
theorem dX0_firstSeveral_99 : decode cX0_firstSeveral 99 = .ok (.lsub, 1) := by decide +kernel
theorem dX0_firstSeveral_100 : decode cX0_firstSeveral 100 = .ok (.lload 4, 2) := by decide +kernel
theorem dX0_firstSeveral_102 : decode cX0_firstSeveral 102 = .ok (.land, 1) := by decide +kernel
theorem dX0_firstSeveral_103 : decode cX0_firstSeveral 103 = .ok (.lstore 6, 2) := by decide +kernel
theorem dX0_firstSeveral_105 : decode cX0_firstSeveral 105 = .ok (.iinc 8 1, 3) := by decide +kernel
theorem dX0_firstSeveral_108 : decode cX0_firstSeveral 108 = .ok (.goto (-71), 3) := by decide +kernel
theorem dX0_firstSeveral_111 : decode cX0_firstSeveral 111 = .ok (.iinc 3 1, 3) := by decide +kernel
theorem dX0_firstSeveral_114 : decode cX0_firstSeveral 114 = .ok (.goto (-112), 3) := by decide +kernel
theorem dX0_firstSeveral_117 : decode cX0_firstSeveral 117 = .ok (.iconst 0, 1) := by decide +kernel
theorem dX0_firstSeveral_118 : decode cX0_firstSeveral 118 = .ok (.ireturn, 1) := by decide +kernel
theorem dX0_firstSwap_0 : decode cX0_firstSwap 0 = .ok (.iconst 0, 1) := by decide +kernel
theorem dX0_firstSwap_1 : decode cX0_firstSwap 1 = .ok (.istore_n 3, 1) := by decide +kernel
theorem dX0_firstSwap_2 : decode cX0_firstSwap 2 = .ok (.iload_n 3, 1) := by decide +kernel
theorem dX0_firstSwap_3 : decode cX0_firstSwap 3 = .ok (.aload_n 0, 1) := by decide +kernel
theorem dX0_firstSwap_4 : decode cX0_firstSwap 4 = .ok (.getfield 21, 3) := by decide +kernel
theorem dX0_firstSwap_7 : decode cX0_firstSwap 7 = .ok (.getfield 111, 3) := by decide +kernel
theorem dX0_firstSwap_10 : decode cX0_firstSwap 10 = .ok (.if_icmp .ge 68, 3) := by decide +kernel
theorem dX0_firstSwap_13 : decode cX0_firstSwap 13 = .ok (.iconst 0, 1) := by decide +kernel
theorem dX0_firstSwap_14 : decode cX0_firstSwap 14 = .ok (.istore 4, 2) := by decide +kernel
theorem dX0_firstSwap_16 : decode cX0_firstSwap 16 = .ok (.iload 4, 2) := by decide +kernel
theorem dX0_firstSwap_18 : decode cX0_firstSwap 18 = .ok (.aload_n 0, 1) := by decide +kernel
theorem dX0_firstSwap_19 : decode cX0_firstSwap 19 = .ok (.getfield 21, 3) := by decide +kernel
theorem dX0_firstSwap_22 : decode cX0_firstSwap 22 = .ok (.getfield 111, 3) := by decide +kernel
theorem dX0_firstSwap_25 : decode cX0_firstSwap 25 = .ok (.if_icmp .ge 47, 3) := by decide +kernel
theorem dX0_firstSwap_28 : decode cX0_firstSwap 28 = .ok (.iload 4, 2) := by decide +kernel
theorem dX0_firstSwap_30 : decode cX0_firstSwap 30 = .ok (.iload_n 3, 1) := by decide +kernel
theorem dX0_firstSwap_31 : decode cX0_firstSwap 31 = .ok (.if_icmp .eq 35, 3) := by decide +kernel
theorem dX0_firstSwap_34 : decode cX0_firstSwap 34 = .ok (.lload_n 1, 1) := by decide +kernel
theorem dX0_firstSwap_35 : decode cX0_firstSwap 35 = .ok (.iload_n 3, 1) := by decide +kernel
theorem dX0_firstSwap_36 : decode cX0_firstSwap 36 = .ok (.iload 4, 2) := by decide +kernel
theorem dX0_firstSwap_38 : decode cX0_firstSwap 38 = .ok (.invokestatic 123, 3) := by decide +kernel
theorem dX0_firstSwap_41 : decode cX0_firstSwap 41 = .ok (.lshr, 1) := by decide +kernel
theorem dX0_firstSwap_42 : decode cX0_firstSwap 42 = .ok (.lconst 1, 1) := by decide +kernel
theorem dX0_firstSwap_43 : decode cX0_firstSwap 43 = .ok (.land, 1) := by decide +kernel
theorem dX0_firstSwap_44 : decode cX0_firstSwap 44 = .ok (.lconst 0, 1) := by decide +kernel
theorem dX0_firstSwap_45 : decode cX0_firstSwap 45 = .ok (.lcmp, 1) := by decide +kernel
theorem dX0_firstSwap_46 : decode cX0_firstSwap 46 = .ok (.ifCond .eq 20, 3) := by decide +kernel
theorem dX0_firstSwap_49 : decode cX0_firstSwap 49 = .ok (.aload_n 0, 1) := by decide +kernel
theorem dX0_firstSwap_50 : decode cX0_firstSwap 50 = .ok (.lload_n 1, 1) := by decide +kernel
theorem dX0_firstSwap_51 : decode cX0_firstSwap 51 = .ok (.iload_n 3, 1) := by decide +kernel
theorem dX0_firstSwap_52 : decode cX0_firstSwap 52 = .ok (.iload_n 3, 1) := by decide +kernel
theorem dX0_firstSwap_53 : decode cX0_firstSwap 53 = .ok (.iload 4, 2) := by decide +kernel
theorem dX0_firstSwap_55 : decode cX0_firstSwap 55 = .ok (.invokestatic 123, 3) := by decide +kernel
theorem dX0_firstSwap_58 : decode cX0_firstSwap 58 = .ok (.invokevirtual 127, 3) := by decide +kernel
theorem dX0_firstSwap_61 : decode cX0_firstSwap 61 = .ok (.ifCond .eq 5, 3) := by decide +kernel
theorem dX0_firstSwap_64 : decode cX0_firstSwap 64 = .ok (.iconst 1, 1) := by decide +kernel
theorem dX0_firstSwap_65 : decode cX0_firstSwap 65 = .ok (.ireturn, 1) := by decide +kernel
theorem dX0_firstSwap_66 : decode cX0_firstSwap 66 = .ok (.iinc 4 1, 3) := by decide +kernel
theorem dX0_firstSwap_69 : decode cX0_firstSwap 69 = .ok (.goto (-53), 3) := by decide +kernel
theorem dX0_firstSwap_72 : decode cX0_firstSwap 72 = .ok (.iinc 3 1, 3) := by decide +kernel
theorem dX0_firstSwap_75 : decode cX0_firstSwap 75 = .ok (.goto (-73), 3) := by decide +kernel
theorem dX0_firstSwap_78 : decode cX0_firstSwap 78 = .ok (.iconst 0, 1) := by decide +kernel
theorem dX0_firstSwap_79 : decode cX0_firstSwap 79 = .ok (.ireturn, 1) := by decide +kernel
theorem dX0_swapsAway_0 : decode cX0_swapsAway 0 = .ok (.iconst 0, 1) := by decide +kernel
theorem dX0_swapsAway_1 : decode cX0_swapsAway 1 = .ok (.istore 5, 2) := by decide +kernel
theorem dX0_swapsAway_3 : decode cX0_swapsAway 3 = .ok (.iload 5, 2) := by decide +kernel
theorem dX0_swapsAway_5 : decode cX0_swapsAway 5 = .ok (.aload_n 0, 1) := by decide +kernel
theorem dX0_swapsAway_6 : decode cX0_swapsAway 6 = .ok (.getfield 21, 3) := by decide +kernel
theorem dX0_swapsAway_9 : decode cX0_swapsAway 9 = .ok (.getfield 111, 3) := by decide +kernel
theorem dX0_swapsAway_12 : decode cX0_swapsAway 12 = .ok (.if_icmp .ge 132, 3) := by decide +kernel
theorem dX0_swapsAway_15 : decode cX0_swapsAway 15 = .ok (.iload 5, 2) := by decide +kernel
theorem dX0_swapsAway_17 : decode cX0_swapsAway 17 = .ok (.iload_n 3, 1) := by decide +kernel
theorem dX0_swapsAway_18 : decode cX0_swapsAway 18 = .ok (.if_icmp .ne 8, 3) := by decide +kernel
theorem dX0_swapsAway_21 : decode cX0_swapsAway 21 = .ok (.iload 4, 2) := by decide +kernel
theorem dX0_swapsAway_23 : decode cX0_swapsAway 23 = .ok (.goto 9, 3) := by decide +kernel
theorem dX0_swapsAway_26 : decode cX0_swapsAway 26 = .ok (.iload_n 3, 1) := by decide +kernel
theorem dX0_swapsAway_27 : decode cX0_swapsAway 27 = .ok (.iload 5, 2) := by decide +kernel
theorem dX0_swapsAway_29 : decode cX0_swapsAway 29 = .ok (.invokestatic 123, 3) := by decide +kernel
theorem dX0_swapsAway_32 : decode cX0_swapsAway 32 = .ok (.istore 6, 2) := by decide +kernel
theorem dX0_swapsAway_34 : decode cX0_swapsAway 34 = .ok (.lload_n 1, 1) := by decide +kernel
theorem dX0_swapsAway_35 : decode cX0_swapsAway 35 = .ok (.lconst 1, 1) := by decide +kernel
theorem dX0_swapsAway_36 : decode cX0_swapsAway 36 = .ok (.iload 4, 2) := by decide +kernel
theorem dX0_swapsAway_38 : decode cX0_swapsAway 38 = .ok (.lshl, 1) := by decide +kernel
theorem dX0_swapsAway_39 : decode cX0_swapsAway 39 = .ok (.ldc2_w 105, 3) := by decide +kernel
theorem dX0_swapsAway_42 : decode cX0_swapsAway 42 = .ok (.lxor, 1) := by decide +kernel
theorem dX0_swapsAway_43 : decode cX0_swapsAway 43 = .ok (.land, 1) := by decide +kernel
theorem dX0_swapsAway_44 : decode cX0_swapsAway 44 = .ok (.lconst 1, 1) := by decide +kernel
theorem dX0_swapsAway_45 : decode cX0_swapsAway 45 = .ok (.iload 6, 2) := by decide +kernel
theorem dX0_swapsAway_47 : decode cX0_swapsAway 47 = .ok (.lshl, 1) := by decide +kernel
theorem dX0_swapsAway_48 : decode cX0_swapsAway 48 = .ok (.lor, 1) := by decide +kernel
theorem dX0_swapsAway_49 : decode cX0_swapsAway 49 = .ok (.lstore 7, 2) := by decide +kernel
theorem dX0_swapsAway_51 : decode cX0_swapsAway 51 = .ok (.lload_n 1, 1) := by decide +kernel
theorem dX0_swapsAway_52 : decode cX0_swapsAway 52 = .ok (.iload 6, 2) := by decide +kernel
theorem dX0_swapsAway_54 : decode cX0_swapsAway 54 = .ok (.lshr, 1) := by decide +kernel
theorem dX0_swapsAway_55 : decode cX0_swapsAway 55 = .ok (.lconst 1, 1) := by decide +kernel
theorem dX0_swapsAway_56 : decode cX0_swapsAway 56 = .ok (.land, 1) := by decide +kernel
theorem dX0_swapsAway_57 : decode cX0_swapsAway 57 = .ok (.lconst 0, 1) := by decide +kernel
theorem dX0_swapsAway_58 : decode cX0_swapsAway 58 = .ok (.lcmp, 1) := by decide +kernel
theorem dX0_swapsAway_59 : decode cX0_swapsAway 59 = .ok (.ifCond .ne 79, 3) := by decide +kernel
theorem dX0_swapsAway_62 : decode cX0_swapsAway 62 = .ok (.aload_n 0, 1) := by decide +kernel
theorem dX0_swapsAway_63 : decode cX0_swapsAway 63 = .ok (.getfield 21, 3) := by decide +kernel
theorem dX0_swapsAway_66 : decode cX0_swapsAway 66 = .ok (.lload 7, 2) := by decide +kernel
theorem dX0_swapsAway_68 : decode cX0_swapsAway 68 = .ok (.invokevirtual 71, 3) := by decide +kernel
theorem dX0_swapsAway_71 : decode cX0_swapsAway 71 = .ok (.ifCond .eq 67, 3) := by decide +kernel
theorem dX0_swapsAway_74 : decode cX0_swapsAway 74 = .ok (.aload_n 0, 1) := by decide +kernel
theorem dX0_swapsAway_75 : decode cX0_swapsAway 75 = .ok (.getfield 32, 3) := by decide +kernel
theorem dX0_swapsAway_78 : decode cX0_swapsAway 78 = .ok (.lload 7, 2) := by decide +kernel
theorem dX0_swapsAway_80 : decode cX0_swapsAway 80 = .ok (.iload_n 3, 1) := by decide +kernel
theorem dX0_swapsAway_81 : decode cX0_swapsAway 81 = .ok (.invokevirtual 74, 3) := by decide +kernel
theorem dX0_swapsAway_84 : decode cX0_swapsAway 84 = .ok (.aload_n 0, 1) := by decide +kernel
theorem dX0_swapsAway_85 : decode cX0_swapsAway 85 = .ok (.getfield 32, 3) := by decide +kernel
theorem dX0_swapsAway_88 : decode cX0_swapsAway 88 = .ok (.lload_n 1, 1) := by decide +kernel
theorem dX0_swapsAway_89 : decode cX0_swapsAway 89 = .ok (.iload_n 3, 1) := by decide +kernel
theorem dX0_swapsAway_90 : decode cX0_swapsAway 90 = .ok (.invokevirtual 74, 3) := by decide +kernel
theorem dX0_swapsAway_93 : decode cX0_swapsAway 93 = .ok (.lcmp, 1) := by decide +kernel
theorem dX0_swapsAway_94 : decode cX0_swapsAway 94 = .ok (.ifCond .le 44, 3) := by decide +kernel
theorem dX0_swapsAway_97 : decode cX0_swapsAway 97 = .ok (.aload_n 0, 1) := by decide +kernel
theorem dX0_swapsAway_98 : decode cX0_swapsAway 98 = .ok (.getfield 32, 3) := by decide +kernel
theorem dX0_swapsAway_101 : decode cX0_swapsAway 101 = .ok (.lload 7, 2) := by decide +kernel
theorem dX0_swapsAway_103 : decode cX0_swapsAway 103 = .ok (.iload 5, 2) := by decide +kernel
theorem dX0_swapsAway_105 : decode cX0_swapsAway 105 = .ok (.invokevirtual 74, 3) := by decide +kernel
theorem dX0_swapsAway_108 : decode cX0_swapsAway 108 = .ok (.aload_n 0, 1) := by decide +kernel
theorem dX0_swapsAway_109 : decode cX0_swapsAway 109 = .ok (.getfield 32, 3) := by decide +kernel
theorem dX0_swapsAway_112 : decode cX0_swapsAway 112 = .ok (.lload_n 1, 1) := by decide +kernel
theorem dX0_swapsAway_113 : decode cX0_swapsAway 113 = .ok (.iload 5, 2) := by decide +kernel
theorem dX0_swapsAway_115 : decode cX0_swapsAway 115 = .ok (.invokevirtual 74, 3) := by decide +kernel
theorem dX0_swapsAway_118 : decode cX0_swapsAway 118 = .ok (.lcmp, 1) := by decide +kernel
theorem dX0_swapsAway_119 : decode cX0_swapsAway 119 = .ok (.ifCond .lt 19, 3) := by decide +kernel
theorem dX0_swapsAway_122 : decode cX0_swapsAway 122 = .ok (.aload_n 0, 1) := by decide +kernel
theorem dX0_swapsAway_123 : decode cX0_swapsAway 123 = .ok (.iconst 3, 1) := by decide +kernel
theorem dX0_swapsAway_124 : decode cX0_swapsAway 124 = .ok (.iconst 1, 1) := by decide +kernel
theorem dX0_swapsAway_125 : decode cX0_swapsAway 125 = .ok (.iload_n 3, 1) := by decide +kernel
theorem dX0_swapsAway_126 : decode cX0_swapsAway 126 = .ok (.ishl, 1) := by decide +kernel
theorem dX0_swapsAway_127 : decode cX0_swapsAway 127 = .ok (.iconst 1, 1) := by decide +kernel
theorem dX0_swapsAway_128 : decode cX0_swapsAway 128 = .ok (.iload 5, 2) := by decide +kernel
theorem dX0_swapsAway_130 : decode cX0_swapsAway 130 = .ok (.ishl, 1) := by decide +kernel
theorem dX0_swapsAway_131 : decode cX0_swapsAway 131 = .ok (.ior, 1) := by decide +kernel
theorem dX0_swapsAway_132 : decode cX0_swapsAway 132 = .ok (.lload 7, 2) := by decide +kernel
theorem dX0_swapsAway_134 : decode cX0_swapsAway 134 = .ok (.invokevirtual 91, 3) := by decide +kernel
theorem dX0_swapsAway_137 : decode cX0_swapsAway 137 = .ok (.ireturn, 1) := by decide +kernel
theorem dX0_swapsAway_138 : decode cX0_swapsAway 138 = .ok (.iinc 5 1, 3) := by decide +kernel
theorem dX0_swapsAway_141 : decode cX0_swapsAway 141 = .ok (.goto (-138), 3) := by decide +kernel
theorem dX0_swapsAway_144 : decode cX0_swapsAway 144 = .ok (.iconst 0, 1) := by decide +kernel
theorem dX0_swapsAway_145 : decode cX0_swapsAway 145 = .ok (.ireturn, 1) := by decide +kernel
theorem dX0_firstTogether_0 : decode cX0_firstTogether 0 = .ok (.iconst 0, 1) := by decide +kernel
theorem dX0_firstTogether_1 : decode cX0_firstTogether 1 = .ok (.istore_n 3, 1) := by decide +kernel
theorem dX0_firstTogether_2 : decode cX0_firstTogether 2 = .ok (.iload_n 3, 1) := by decide +kernel
theorem dX0_firstTogether_3 : decode cX0_firstTogether 3 = .ok (.aload_n 0, 1) := by decide +kernel
theorem dX0_firstTogether_4 : decode cX0_firstTogether 4 = .ok (.getfield 21, 3) := by decide +kernel
theorem dX0_firstTogether_7 : decode cX0_firstTogether 7 = .ok (.getfield 80, 3) := by decide +kernel
theorem dX0_firstTogether_10 : decode cX0_firstTogether 10 = .ok (.if_icmp .ge 111, 3) := by decide +kernel
theorem dX0_firstTogether_13 : decode cX0_firstTogether 13 = .ok (.lload_n 1, 1) := by decide +kernel
theorem dX0_firstTogether_14 : decode cX0_firstTogether 14 = .ok (.lconst 1, 1) := by decide +kernel
theorem dX0_firstTogether_15 : decode cX0_firstTogether 15 = .ok (.iload_n 3, 1) := by decide +kernel
theorem dX0_firstTogether_16 : decode cX0_firstTogether 16 = .ok (.lshl, 1) := by decide +kernel
theorem dX0_firstTogether_17 : decode cX0_firstTogether 17 = .ok (.lxor, 1) := by decide +kernel
theorem dX0_firstTogether_18 : decode cX0_firstTogether 18 = .ok (.lstore 4, 2) := by decide +kernel
theorem dX0_firstTogether_20 : decode cX0_firstTogether 20 = .ok (.aload_n 0, 1) := by decide +kernel
theorem dX0_firstTogether_21 : decode cX0_firstTogether 21 = .ok (.getfield 31, 3) := by decide +kernel
theorem dX0_firstTogether_24 : decode cX0_firstTogether 24 = .ok (.getfield 42, 3) := by decide +kernel
theorem dX0_firstTogether_27 : decode cX0_firstTogether 27 = .ok (.iload_n 3, 1) := by decide +kernel
theorem dX0_firstTogether_28 : decode cX0_firstTogether 28 = .ok (.iaload, 1) := by decide +kernel
theorem dX0_firstTogether_29 : decode cX0_firstTogether 29 = .ok (.istore 6, 2) := by decide +kernel
theorem dX0_firstTogether_31 : decode cX0_firstTogether 31 = .ok (.aload_n 0, 1) := by decide +kernel
theorem dX0_firstTogether_32 : decode cX0_firstTogether 32 = .ok (.getfield 31, 3) := by decide +kernel
theorem dX0_firstTogether_35 : decode cX0_firstTogether 35 = .ok (.getfield 46, 3) := by decide +kernel
theorem dX0_firstTogether_38 : decode cX0_firstTogether 38 = .ok (.iload_n 3, 1) := by decide +kernel
theorem dX0_firstTogether_39 : decode cX0_firstTogether 39 = .ok (.iaload, 1) := by decide +kernel
theorem dX0_firstTogether_40 : decode cX0_firstTogether 40 = .ok (.istore 7, 2) := by decide +kernel
theorem dX0_firstTogether_42 : decode cX0_firstTogether 42 = .ok (.aload_n 0, 1) := by decide +kernel
theorem dX0_firstTogether_43 : decode cX0_firstTogether 43 = .ok (.getfield 21, 3) := by decide +kernel
theorem dX0_firstTogether_46 : decode cX0_firstTogether 46 = .ok (.lload 4, 2) := by decide +kernel
theorem dX0_firstTogether_48 : decode cX0_firstTogether 48 = .ok (.invokevirtual 71, 3) := by decide +kernel
theorem dX0_firstTogether_51 : decode cX0_firstTogether 51 = .ok (.ifCond .eq 64, 3) := by decide +kernel
theorem dX0_firstTogether_54 : decode cX0_firstTogether 54 = .ok (.aload_n 0, 1) := by decide +kernel
theorem dX0_firstTogether_55 : decode cX0_firstTogether 55 = .ok (.getfield 32, 3) := by decide +kernel
theorem dX0_firstTogether_58 : decode cX0_firstTogether 58 = .ok (.lload 4, 2) := by decide +kernel
theorem dX0_firstTogether_60 : decode cX0_firstTogether 60 = .ok (.iload 6, 2) := by decide +kernel
theorem dX0_firstTogether_62 : decode cX0_firstTogether 62 = .ok (.invokevirtual 74, 3) := by decide +kernel
theorem dX0_firstTogether_65 : decode cX0_firstTogether 65 = .ok (.aload_n 0, 1) := by decide +kernel
theorem dX0_firstTogether_66 : decode cX0_firstTogether 66 = .ok (.getfield 32, 3) := by decide +kernel
theorem dX0_firstTogether_69 : decode cX0_firstTogether 69 = .ok (.lload 4, 2) := by decide +kernel
theorem dX0_firstTogether_71 : decode cX0_firstTogether 71 = .ok (.iload 7, 2) := by decide +kernel
theorem dX0_firstTogether_73 : decode cX0_firstTogether 73 = .ok (.invokevirtual 74, 3) := by decide +kernel
theorem dX0_firstTogether_76 : decode cX0_firstTogether 76 = .ok (.ladd, 1) := by decide +kernel
theorem dX0_firstTogether_77 : decode cX0_firstTogether 77 = .ok (.aload_n 0, 1) := by decide +kernel
theorem dX0_firstTogether_78 : decode cX0_firstTogether 78 = .ok (.getfield 32, 3) := by decide +kernel
theorem dX0_firstTogether_81 : decode cX0_firstTogether 81 = .ok (.lload_n 1, 1) := by decide +kernel
theorem dX0_firstTogether_82 : decode cX0_firstTogether 82 = .ok (.iload 6, 2) := by decide +kernel
theorem dX0_firstTogether_84 : decode cX0_firstTogether 84 = .ok (.invokevirtual 74, 3) := by decide +kernel
theorem dX0_firstTogether_87 : decode cX0_firstTogether 87 = .ok (.aload_n 0, 1) := by decide +kernel
theorem dX0_firstTogether_88 : decode cX0_firstTogether 88 = .ok (.getfield 32, 3) := by decide +kernel
theorem dX0_firstTogether_91 : decode cX0_firstTogether 91 = .ok (.lload_n 1, 1) := by decide +kernel
theorem dX0_firstTogether_92 : decode cX0_firstTogether 92 = .ok (.iload 7, 2) := by decide +kernel
theorem dX0_firstTogether_94 : decode cX0_firstTogether 94 = .ok (.invokevirtual 74, 3) := by decide +kernel
theorem dX0_firstTogether_97 : decode cX0_firstTogether 97 = .ok (.ladd, 1) := by decide +kernel
theorem dX0_firstTogether_98 : decode cX0_firstTogether 98 = .ok (.lcmp, 1) := by decide +kernel
theorem dX0_firstTogether_99 : decode cX0_firstTogether 99 = .ok (.ifCond .le 16, 3) := by decide +kernel
theorem dX0_firstTogether_102 : decode cX0_firstTogether 102 = .ok (.aload_n 0, 1) := by decide +kernel
theorem dX0_firstTogether_103 : decode cX0_firstTogether 103 = .ok (.iconst 4, 1) := by decide +kernel
theorem dX0_firstTogether_104 : decode cX0_firstTogether 104 = .ok (.aload_n 0, 1) := by decide +kernel
theorem dX0_firstTogether_105 : decode cX0_firstTogether 105 = .ok (.iload_n 3, 1) := by decide +kernel
theorem dX0_firstTogether_106 : decode cX0_firstTogether 106 = .ok (.invokevirtual 88, 3) := by decide +kernel
theorem dX0_firstTogether_109 : decode cX0_firstTogether 109 = .ok (.lload 4, 2) := by decide +kernel
theorem dX0_firstTogether_111 : decode cX0_firstTogether 111 = .ok (.invokevirtual 91, 3) := by decide +kernel
theorem dX0_firstTogether_114 : decode cX0_firstTogether 114 = .ok (.ireturn, 1) := by decide +kernel
theorem dX0_firstTogether_115 : decode cX0_firstTogether 115 = .ok (.iinc 3 1, 3) := by decide +kernel
theorem dX0_firstTogether_118 : decode cX0_firstTogether 118 = .ok (.goto (-116), 3) := by decide +kernel
theorem dX0_firstTogether_121 : decode cX0_firstTogether 121 = .ok (.iconst 0, 1) := by decide +kernel
theorem dX0_firstTogether_122 : decode cX0_firstTogether 122 = .ok (.ireturn, 1) := by decide +kernel
theorem dX0_firstSet_0 : decode cX0_firstSet 0 = .ok (.aload_n 0, 1) := by decide +kernel
theorem dX0_firstSet_1 : decode cX0_firstSet 1 = .ok (.getfield 21, 3) := by decide +kernel
theorem dX0_firstSet_4 : decode cX0_firstSet 4 = .ok (.getfield 111, 3) := by decide +kernel
theorem dX0_firstSet_7 : decode cX0_firstSet 7 = .ok (.iconst 5, 1) := by decide +kernel
theorem dX0_firstSet_8 : decode cX0_firstSet 8 = .ok (.if_icmp .le 5, 3) := by decide +kernel
theorem dX0_firstSet_11 : decode cX0_firstSet 11 = .ok (.iconst 0, 1) := by decide +kernel
theorem dX0_firstSet_12 : decode cX0_firstSet 12 = .ok (.ireturn, 1) := by decide +kernel
theorem dX0_firstSet_13 : decode cX0_firstSet 13 = .ok (.iconst 0, 1) := by decide +kernel
theorem dX0_firstSet_14 : decode cX0_firstSet 14 = .ok (.istore_n 3, 1) := by decide +kernel
theorem dX0_firstSet_15 : decode cX0_firstSet 15 = .ok (.iload_n 3, 1) := by decide +kernel
theorem dX0_firstSet_16 : decode cX0_firstSet 16 = .ok (.aload_n 0, 1) := by decide +kernel
theorem dX0_firstSet_17 : decode cX0_firstSet 17 = .ok (.getfield 21, 3) := by decide +kernel
theorem dX0_firstSet_20 : decode cX0_firstSet 20 = .ok (.getfield 111, 3) := by decide +kernel
theorem dX0_firstSet_23 : decode cX0_firstSet 23 = .ok (.if_icmp .ge 24, 3) := by decide +kernel
theorem dX0_firstSet_26 : decode cX0_firstSet 26 = .ok (.aload_n 0, 1) := by decide +kernel
theorem dX0_firstSet_27 : decode cX0_firstSet 27 = .ok (.getfield 18, 3) := by decide +kernel
theorem dX0_firstSet_30 : decode cX0_firstSet 30 = .ok (.iload_n 3, 1) := by decide +kernel
theorem dX0_firstSet_31 : decode cX0_firstSet 31 = .ok (.aload_n 0, 1) := by decide +kernel
theorem dX0_firstSet_32 : decode cX0_firstSet 32 = .ok (.getfield 32, 3) := by decide +kernel
theorem dX0_firstSet_35 : decode cX0_firstSet 35 = .ok (.lload_n 1, 1) := by decide +kernel
theorem dX0_firstSet_36 : decode cX0_firstSet 36 = .ok (.iload_n 3, 1) := by decide +kernel
theorem dX0_firstSet_37 : decode cX0_firstSet 37 = .ok (.invokevirtual 74, 3) := by decide +kernel
theorem dX0_firstSet_40 : decode cX0_firstSet 40 = .ok (.lastore, 1) := by decide +kernel
theorem dX0_firstSet_41 : decode cX0_firstSet 41 = .ok (.iinc 3 1, 3) := by decide +kernel
theorem dX0_firstSet_44 : decode cX0_firstSet 44 = .ok (.goto (-29), 3) := by decide +kernel
theorem dX0_firstSet_47 : decode cX0_firstSet 47 = .ok (.lconst 1, 1) := by decide +kernel
theorem dX0_firstSet_48 : decode cX0_firstSet 48 = .ok (.aload_n 0, 1) := by decide +kernel
theorem dX0_firstSet_49 : decode cX0_firstSet 49 = .ok (.getfield 21, 3) := by decide +kernel
theorem dX0_firstSet_52 : decode cX0_firstSet 52 = .ok (.getfield 80, 3) := by decide +kernel
theorem dX0_firstSet_55 : decode cX0_firstSet 55 = .ok (.lshl, 1) := by decide +kernel
theorem dX0_firstSet_56 : decode cX0_firstSet 56 = .ok (.lstore_n 3, 1) := by decide +kernel
theorem dX0_firstSet_57 : decode cX0_firstSet 57 = .ok (.lconst 0, 1) := by decide +kernel
theorem dX0_firstSet_58 : decode cX0_firstSet 58 = .ok (.lstore 5, 2) := by decide +kernel
theorem dX0_firstSet_60 : decode cX0_firstSet 60 = .ok (.lload 5, 2) := by decide +kernel
theorem dX0_firstSet_62 : decode cX0_firstSet 62 = .ok (.lload_n 3, 1) := by decide +kernel
theorem dX0_firstSet_63 : decode cX0_firstSet 63 = .ok (.lcmp, 1) := by decide +kernel
theorem dX0_firstSet_64 : decode cX0_firstSet 64 = .ok (.ifCond .ge 107, 3) := by decide +kernel
theorem dX0_firstSet_67 : decode cX0_firstSet 67 = .ok (.lload 5, 2) := by decide +kernel
theorem dX0_firstSet_69 : decode cX0_firstSet 69 = .ok (.lload_n 1, 1) := by decide +kernel
theorem dX0_firstSet_70 : decode cX0_firstSet 70 = .ok (.ldc2_w 105, 3) := by decide +kernel
theorem dX0_firstSet_73 : decode cX0_firstSet 73 = .ok (.lxor, 1) := by decide +kernel
theorem dX0_firstSet_74 : decode cX0_firstSet 74 = .ok (.land, 1) := by decide +kernel
theorem dX0_firstSet_75 : decode cX0_firstSet 75 = .ok (.lstore 7, 2) := by decide +kernel
theorem dX0_firstSet_77 : decode cX0_firstSet 77 = .ok (.aload_n 0, 1) := by decide +kernel
theorem dX0_firstSet_78 : decode cX0_firstSet 78 = .ok (.lload 7, 2) := by decide +kernel
theorem dX0_firstSet_80 : decode cX0_firstSet 80 = .ok (.invokevirtual 131, 3) := by decide +kernel
theorem dX0_firstSet_83 : decode cX0_firstSet 83 = .ok (.istore 9, 2) := by decide +kernel
theorem dX0_firstSet_85 : decode cX0_firstSet 85 = .ok (.iload 9, 2) := by decide +kernel
theorem dX0_firstSet_87 : decode cX0_firstSet 87 = .ok (.iconst (-1), 1) := by decide +kernel
theorem dX0_firstSet_88 : decode cX0_firstSet 88 = .ok (.if_icmp .eq 25, 3) := by decide +kernel
theorem dX0_firstSet_91 : decode cX0_firstSet 91 = .ok (.aload_n 0, 1) := by decide +kernel
theorem dX0_firstSet_92 : decode cX0_firstSet 92 = .ok (.getfield 32, 3) := by decide +kernel
theorem dX0_firstSet_95 : decode cX0_firstSet 95 = .ok (.lload 5, 2) := by decide +kernel
theorem dX0_firstSet_97 : decode cX0_firstSet 97 = .ok (.iload 9, 2) := by decide +kernel
theorem dX0_firstSet_99 : decode cX0_firstSet 99 = .ok (.invokevirtual 74, 3) := by decide +kernel
theorem dX0_firstSet_102 : decode cX0_firstSet 102 = .ok (.aload_n 0, 1) := by decide +kernel
theorem dX0_firstSet_103 : decode cX0_firstSet 103 = .ok (.getfield 18, 3) := by decide +kernel
theorem dX0_firstSet_106 : decode cX0_firstSet 106 = .ok (.iload 9, 2) := by decide +kernel
theorem dX0_firstSet_108 : decode cX0_firstSet 108 = .ok (.laload, 1) := by decide +kernel
theorem dX0_firstSet_109 : decode cX0_firstSet 109 = .ok (.lcmp, 1) := by decide +kernel
theorem dX0_firstSet_110 : decode cX0_firstSet 110 = .ok (.ifCond .le 52, 3) := by decide +kernel
theorem dX0_firstSet_113 : decode cX0_firstSet 113 = .ok (.aload_n 0, 1) := by decide +kernel
theorem dX0_firstSet_114 : decode cX0_firstSet 114 = .ok (.aload_n 0, 1) := by decide +kernel
theorem dX0_firstSet_115 : decode cX0_firstSet 115 = .ok (.lload 5, 2) := by decide +kernel
theorem dX0_firstSet_117 : decode cX0_firstSet 117 = .ok (.invokevirtual 134, 3) := by decide +kernel
theorem dX0_firstSet_120 : decode cX0_firstSet 120 = .ok (.lload 7, 2) := by decide +kernel
theorem dX0_firstSet_122 : decode cX0_firstSet 122 = .ok (.lload_n 1, 1) := by decide +kernel
theorem dX0_firstSet_123 : decode cX0_firstSet 123 = .ok (.lload 5, 2) := by decide +kernel
theorem dX0_firstSet_125 : decode cX0_firstSet 125 = .ok (.ldc2_w 105, 3) := by decide +kernel
theorem dX0_firstSet_128 : decode cX0_firstSet 128 = .ok (.lxor, 1) := by decide +kernel
theorem dX0_firstSet_129 : decode cX0_firstSet 129 = .ok (.land, 1) := by decide +kernel
theorem dX0_firstSet_130 : decode cX0_firstSet 130 = .ok (.invokevirtual 137, 3) := by decide +kernel
theorem dX0_firstSet_133 : decode cX0_firstSet 133 = .ok (.istore 10, 2) := by decide +kernel
theorem dX0_firstSet_135 : decode cX0_firstSet 135 = .ok (.iload 10, 2) := by decide +kernel
theorem dX0_firstSet_137 : decode cX0_firstSet 137 = .ok (.ifCond .eq 25, 3) := by decide +kernel
theorem dX0_firstSet_140 : decode cX0_firstSet 140 = .ok (.aload_n 0, 1) := by decide +kernel
theorem dX0_firstSet_141 : decode cX0_firstSet 141 = .ok (.getfield 21, 3) := by decide +kernel
theorem dX0_firstSet_144 : decode cX0_firstSet 144 = .ok (.lload 5, 2) := by decide +kernel
theorem dX0_firstSet_146 : decode cX0_firstSet 146 = .ok (.invokevirtual 71, 3) := by decide +kernel
theorem dX0_firstSet_149 : decode cX0_firstSet 149 = .ok (.ifCond .eq 13, 3) := by decide +kernel
theorem dX0_firstSet_152 : decode cX0_firstSet 152 = .ok (.aload_n 0, 1) := by decide +kernel
theorem dX0_firstSet_153 : decode cX0_firstSet 153 = .ok (.iconst 5, 1) := by decide +kernel
theorem dX0_firstSet_154 : decode cX0_firstSet 154 = .ok (.iload 10, 2) := by decide +kernel
theorem dX0_firstSet_156 : decode cX0_firstSet 156 = .ok (.lload 5, 2) := by decide +kernel
theorem dX0_firstSet_158 : decode cX0_firstSet 158 = .ok (.invokevirtual 91, 3) := by decide +kernel
theorem dX0_firstSet_161 : decode cX0_firstSet 161 = .ok (.ireturn, 1) := by decide +kernel
theorem dX0_firstSet_162 : decode cX0_firstSet 162 = .ok (.lload 5, 2) := by decide +kernel
theorem dX0_firstSet_164 : decode cX0_firstSet 164 = .ok (.lconst 1, 1) := by decide +kernel
theorem dX0_firstSet_165 : decode cX0_firstSet 165 = .ok (.ladd, 1) := by decide +kernel
theorem dX0_firstSet_166 : decode cX0_firstSet 166 = .ok (.lstore 5, 2) := by decide +kernel
theorem dX0_firstSet_168 : decode cX0_firstSet 168 = .ok (.goto (-108), 3) := by decide +kernel
theorem dX0_firstSet_171 : decode cX0_firstSet 171 = .ok (.iconst 0, 1) := by decide +kernel
theorem dX0_firstSet_172 : decode cX0_firstSet 172 = .ok (.ireturn, 1) := by decide +kernel
theorem dX0_firstMaker_0 : decode cX0_firstMaker 0 = .ok (.iconst 0, 1) := by decide +kernel
theorem dX0_firstMaker_1 : decode cX0_firstMaker 1 = .ok (.istore_n 3, 1) := by decide +kernel
theorem dX0_firstMaker_2 : decode cX0_firstMaker 2 = .ok (.iload_n 3, 1) := by decide +kernel
theorem dX0_firstMaker_3 : decode cX0_firstMaker 3 = .ok (.aload_n 0, 1) := by decide +kernel
theorem dX0_firstMaker_4 : decode cX0_firstMaker 4 = .ok (.getfield 21, 3) := by decide +kernel
theorem dX0_firstMaker_7 : decode cX0_firstMaker 7 = .ok (.getfield 111, 3) := by decide +kernel
theorem dX0_firstMaker_10 : decode cX0_firstMaker 10 = .ok (.if_icmp .ge 33, 3) := by decide +kernel
theorem dX0_firstMaker_13 : decode cX0_firstMaker 13 = .ok (.lload_n 1, 1) := by decide +kernel
theorem dX0_firstMaker_14 : decode cX0_firstMaker 14 = .ok (.lconst 0, 1) := by decide +kernel
theorem dX0_firstMaker_15 : decode cX0_firstMaker 15 = .ok (.lcmp, 1) := by decide +kernel
theorem dX0_firstMaker_16 : decode cX0_firstMaker 16 = .ok (.ifCond .eq 27, 3) := by decide +kernel
theorem dX0_firstMaker_19 : decode cX0_firstMaker 19 = .ok (.lload_n 1, 1) := by decide +kernel
theorem dX0_firstMaker_20 : decode cX0_firstMaker 20 = .ok (.aload_n 0, 1) := by decide +kernel
theorem dX0_firstMaker_21 : decode cX0_firstMaker 21 = .ok (.getfield 31, 3) := by decide +kernel
theorem dX0_firstMaker_24 : decode cX0_firstMaker 24 = .ok (.getfield 114, 3) := by decide +kernel
theorem dX0_firstMaker_27 : decode cX0_firstMaker 27 = .ok (.iload_n 3, 1) := by decide +kernel
theorem dX0_firstMaker_28 : decode cX0_firstMaker 28 = .ok (.laload, 1) := by decide +kernel
theorem dX0_firstMaker_29 : decode cX0_firstMaker 29 = .ok (.land, 1) := by decide +kernel
theorem dX0_firstMaker_30 : decode cX0_firstMaker 30 = .ok (.lconst 0, 1) := by decide +kernel
theorem dX0_firstMaker_31 : decode cX0_firstMaker 31 = .ok (.lcmp, 1) := by decide +kernel
theorem dX0_firstMaker_32 : decode cX0_firstMaker 32 = .ok (.ifCond .eq 5, 3) := by decide +kernel
theorem dX0_firstMaker_35 : decode cX0_firstMaker 35 = .ok (.iload_n 3, 1) := by decide +kernel
theorem dX0_firstMaker_36 : decode cX0_firstMaker 36 = .ok (.ireturn, 1) := by decide +kernel
theorem dX0_firstMaker_37 : decode cX0_firstMaker 37 = .ok (.iinc 3 1, 3) := by decide +kernel
theorem dX0_firstMaker_40 : decode cX0_firstMaker 40 = .ok (.goto (-38), 3) := by decide +kernel
theorem dX0_firstMaker_43 : decode cX0_firstMaker 43 = .ok (.iconst (-1), 1) := by decide +kernel
theorem dX0_firstMaker_44 : decode cX0_firstMaker 44 = .ok (.ireturn, 1) := by decide +kernel
theorem dX0_gainers_0 : decode cX0_gainers 0 = .ok (.iconst 0, 1) := by decide +kernel
theorem dX0_gainers_1 : decode cX0_gainers 1 = .ok (.istore_n 3, 1) := by decide +kernel
theorem dX0_gainers_2 : decode cX0_gainers 2 = .ok (.iconst 0, 1) := by decide +kernel
theorem dX0_gainers_3 : decode cX0_gainers 3 = .ok (.istore 4, 2) := by decide +kernel
theorem dX0_gainers_5 : decode cX0_gainers 5 = .ok (.iload 4, 2) := by decide +kernel
theorem dX0_gainers_7 : decode cX0_gainers 7 = .ok (.aload_n 0, 1) := by decide +kernel
theorem dX0_gainers_8 : decode cX0_gainers 8 = .ok (.getfield 21, 3) := by decide +kernel
theorem dX0_gainers_11 : decode cX0_gainers 11 = .ok (.getfield 111, 3) := by decide +kernel
theorem dX0_gainers_14 : decode cX0_gainers 14 = .ok (.if_icmp .ge 41, 3) := by decide +kernel
theorem dX0_gainers_17 : decode cX0_gainers 17 = .ok (.iload_n 3, 1) := by decide +kernel
theorem dX0_gainers_18 : decode cX0_gainers 18 = .ok (.aload_n 0, 1) := by decide +kernel
theorem dX0_gainers_19 : decode cX0_gainers 19 = .ok (.getfield 32, 3) := by decide +kernel
theorem dX0_gainers_22 : decode cX0_gainers 22 = .ok (.lload_n 1, 1) := by decide +kernel
theorem dX0_gainers_23 : decode cX0_gainers 23 = .ok (.iload 4, 2) := by decide +kernel
theorem dX0_gainers_25 : decode cX0_gainers 25 = .ok (.invokevirtual 74, 3) := by decide +kernel
theorem dX0_gainers_28 : decode cX0_gainers 28 = .ok (.aload_n 0, 1) := by decide +kernel
theorem dX0_gainers_29 : decode cX0_gainers 29 = .ok (.getfield 18, 3) := by decide +kernel
theorem dX0_gainers_32 : decode cX0_gainers 32 = .ok (.iload 4, 2) := by decide +kernel
theorem dX0_gainers_34 : decode cX0_gainers 34 = .ok (.laload, 1) := by decide +kernel
theorem dX0_gainers_35 : decode cX0_gainers 35 = .ok (.lcmp, 1) := by decide +kernel
theorem dX0_gainers_36 : decode cX0_gainers 36 = .ok (.ifCond .le 10, 3) := by decide +kernel
theorem dX0_gainers_39 : decode cX0_gainers 39 = .ok (.iconst 1, 1) := by decide +kernel
theorem dX0_gainers_40 : decode cX0_gainers 40 = .ok (.iload 4, 2) := by decide +kernel
theorem dX0_gainers_42 : decode cX0_gainers 42 = .ok (.ishl, 1) := by decide +kernel
theorem dX0_gainers_43 : decode cX0_gainers 43 = .ok (.goto 4, 3) := by decide +kernel
theorem dX0_gainers_46 : decode cX0_gainers 46 = .ok (.iconst 0, 1) := by decide +kernel
theorem dX0_gainers_47 : decode cX0_gainers 47 = .ok (.ior, 1) := by decide +kernel
theorem dX0_gainers_48 : decode cX0_gainers 48 = .ok (.istore_n 3, 1) := by decide +kernel
theorem dX0_gainers_49 : decode cX0_gainers 49 = .ok (.iinc 4 1, 3) := by decide +kernel
theorem dX0_gainers_52 : decode cX0_gainers 52 = .ok (.goto (-47), 3) := by decide +kernel
theorem dX0_gainers_55 : decode cX0_gainers 55 = .ok (.iload_n 3, 1) := by decide +kernel
theorem dX0_gainers_56 : decode cX0_gainers 56 = .ok (.ireturn, 1) := by decide +kernel
theorem dX0_leastSet_0 : decode cX0_leastSet 0 = .ok (.iconst 1, 1) := by decide +kernel
theorem dX0_leastSet_1 : decode cX0_leastSet 1 = .ok (.istore 6, 2) := by decide +kernel
theorem dX0_leastSet_3 : decode cX0_leastSet 3 = .ok (.iload 6, 2) := by decide +kernel
theorem dX0_leastSet_5 : decode cX0_leastSet 5 = .ok (.bipush 32, 2) := by decide +kernel
theorem dX0_leastSet_7 : decode cX0_leastSet 7 = .ok (.if_icmp .ge 64, 3) := by decide +kernel
theorem dX0_leastSet_10 : decode cX0_leastSet 10 = .ok (.iload 6, 2) := by decide +kernel
theorem dX0_leastSet_12 : decode cX0_leastSet 12 = .ok (.iload_n 1, 1) := by decide +kernel
theorem dX0_leastSet_13 : decode cX0_leastSet 13 = .ok (.if_icmp .gt 58, 3) := by decide +kernel
theorem dX0_leastSet_16 : decode cX0_leastSet 16 = .ok (.iload 6, 2) := by decide +kernel
theorem dX0_leastSet_18 : decode cX0_leastSet 18 = .ok (.iload_n 1, 1) := by decide +kernel
theorem dX0_leastSet_19 : decode cX0_leastSet 19 = .ok (.iconst (-1), 1) := by decide +kernel
theorem dX0_leastSet_20 : decode cX0_leastSet 20 = .ok (.ixor, 1) := by decide +kernel
theorem dX0_leastSet_21 : decode cX0_leastSet 21 = .ok (.iand, 1) := by decide +kernel
theorem dX0_leastSet_22 : decode cX0_leastSet 22 = .ok (.ifCond .ne 43, 3) := by decide +kernel
theorem dX0_leastSet_25 : decode cX0_leastSet 25 = .ok (.lload_n 2, 1) := by decide +kernel
theorem dX0_leastSet_26 : decode cX0_leastSet 26 = .ok (.aload_n 0, 1) := by decide +kernel
theorem dX0_leastSet_27 : decode cX0_leastSet 27 = .ok (.getfield 11, 3) := by decide +kernel
theorem dX0_leastSet_30 : decode cX0_leastSet 30 = .ok (.iload 6, 2) := by decide +kernel
theorem dX0_leastSet_32 : decode cX0_leastSet 32 = .ok (.laload, 1) := by decide +kernel
theorem dX0_leastSet_33 : decode cX0_leastSet 33 = .ok (.ldc2_w 105, 3) := by decide +kernel
theorem dX0_leastSet_36 : decode cX0_leastSet 36 = .ok (.lxor, 1) := by decide +kernel
theorem dX0_leastSet_37 : decode cX0_leastSet 37 = .ok (.land, 1) := by decide +kernel
theorem dX0_leastSet_38 : decode cX0_leastSet 38 = .ok (.lconst 0, 1) := by decide +kernel
theorem dX0_leastSet_39 : decode cX0_leastSet 39 = .ok (.lcmp, 1) := by decide +kernel
theorem dX0_leastSet_40 : decode cX0_leastSet 40 = .ok (.ifCond .ne 25, 3) := by decide +kernel
theorem dX0_leastSet_43 : decode cX0_leastSet 43 = .ok (.lload 4, 2) := by decide +kernel
theorem dX0_leastSet_45 : decode cX0_leastSet 45 = .ok (.aload_n 0, 1) := by decide +kernel
theorem dX0_leastSet_46 : decode cX0_leastSet 46 = .ok (.getfield 15, 3) := by decide +kernel
theorem dX0_leastSet_49 : decode cX0_leastSet 49 = .ok (.iload 6, 2) := by decide +kernel
theorem dX0_leastSet_51 : decode cX0_leastSet 51 = .ok (.laload, 1) := by decide +kernel
theorem dX0_leastSet_52 : decode cX0_leastSet 52 = .ok (.ldc2_w 105, 3) := by decide +kernel
theorem dX0_leastSet_55 : decode cX0_leastSet 55 = .ok (.lxor, 1) := by decide +kernel
theorem dX0_leastSet_56 : decode cX0_leastSet 56 = .ok (.land, 1) := by decide +kernel
theorem dX0_leastSet_57 : decode cX0_leastSet 57 = .ok (.lconst 0, 1) := by decide +kernel
theorem dX0_leastSet_58 : decode cX0_leastSet 58 = .ok (.lcmp, 1) := by decide +kernel
theorem dX0_leastSet_59 : decode cX0_leastSet 59 = .ok (.ifCond .ne 6, 3) := by decide +kernel
theorem dX0_leastSet_62 : decode cX0_leastSet 62 = .ok (.iload 6, 2) := by decide +kernel
theorem dX0_leastSet_64 : decode cX0_leastSet 64 = .ok (.ireturn, 1) := by decide +kernel
theorem dX0_leastSet_65 : decode cX0_leastSet 65 = .ok (.iinc 6 1, 3) := by decide +kernel
theorem dX0_leastSet_68 : decode cX0_leastSet 68 = .ok (.goto (-65), 3) := by decide +kernel
theorem dX0_leastSet_71 : decode cX0_leastSet 71 = .ok (.iconst 0, 1) := by decide +kernel
theorem dX0_leastSet_72 : decode cX0_leastSet 72 = .ok (.ireturn, 1) := by decide +kernel
theorem dX1_init_0 : decode cX1_init 0 = .ok (.aload_n 0, 1) := by decide +kernel
theorem dX1_init_1 : decode cX1_init 1 = .ok (.invokespecial 1, 3) := by decide +kernel
theorem dX1_init_4 : decode cX1_init 4 = .ok (.aload_n 0, 1) := by decide +kernel
theorem dX1_init_5 : decode cX1_init 5 = .ok (.iload_n 1, 1) := by decide +kernel
theorem dX1_init_6 : decode cX1_init 6 = .ok (.newarray .long, 2) := by decide +kernel
theorem dX1_init_8 : decode cX1_init 8 = .ok (.putfield 7, 3) := by decide +kernel
theorem dX1_init_11 : decode cX1_init 11 = .ok (.aload_n 0, 1) := by decide +kernel
theorem dX1_init_12 : decode cX1_init 12 = .ok (.iload_n 1, 1) := by decide +kernel
theorem dX1_init_13 : decode cX1_init 13 = .ok (.newarray .int, 2) := by decide +kernel
theorem dX1_init_15 : decode cX1_init 15 = .ok (.putfield 13, 3) := by decide +kernel
theorem dX1_init_18 : decode cX1_init 18 = .ok (.return_, 1) := by decide +kernel
theorem dX1_isPlace_0 : decode cX1_isPlace 0 = .ok (.iload_n 1, 1) := by decide +kernel
theorem dX1_isPlace_1 : decode cX1_isPlace 1 = .ok (.ifCond .lt 15, 3) := by decide +kernel
theorem dX1_isPlace_4 : decode cX1_isPlace 4 = .ok (.iload_n 1, 1) := by decide +kernel
theorem dX1_isPlace_5 : decode cX1_isPlace 5 = .ok (.aload_n 0, 1) := by decide +kernel
theorem dX1_isPlace_6 : decode cX1_isPlace 6 = .ok (.getfield 17, 3) := by decide +kernel
theorem dX1_isPlace_9 : decode cX1_isPlace 9 = .ok (.if_icmp .ge 7, 3) := by decide +kernel
theorem dX1_isPlace_12 : decode cX1_isPlace 12 = .ok (.iconst 1, 1) := by decide +kernel
theorem dX1_isPlace_13 : decode cX1_isPlace 13 = .ok (.goto 4, 3) := by decide +kernel
theorem dX1_isPlace_16 : decode cX1_isPlace 16 = .ok (.iconst 0, 1) := by decide +kernel
theorem dX1_isPlace_17 : decode cX1_isPlace 17 = .ok (.ireturn, 1) := by decide +kernel
theorem dX1_note_0 : decode cX1_note 0 = .ok (.aload_n 0, 1) := by decide +kernel
theorem dX1_note_1 : decode cX1_note 1 = .ok (.getfield 17, 3) := by decide +kernel
theorem dX1_note_4 : decode cX1_note 4 = .ok (.istore_n 3, 1) := by decide +kernel
theorem dX1_note_5 : decode cX1_note 5 = .ok (.iload_n 3, 1) := by decide +kernel
theorem dX1_note_6 : decode cX1_note 6 = .ok (.ifCond .le 22, 3) := by decide +kernel
theorem dX1_note_9 : decode cX1_note 9 = .ok (.aload_n 0, 1) := by decide +kernel
theorem dX1_note_10 : decode cX1_note 10 = .ok (.getfield 7, 3) := by decide +kernel
theorem dX1_note_13 : decode cX1_note 13 = .ok (.iload_n 3, 1) := by decide +kernel
theorem dX1_note_14 : decode cX1_note 14 = .ok (.iconst 1, 1) := by decide +kernel
theorem dX1_note_15 : decode cX1_note 15 = .ok (.isub, 1) := by decide +kernel
theorem dX1_note_16 : decode cX1_note 16 = .ok (.laload, 1) := by decide +kernel
theorem dX1_note_17 : decode cX1_note 17 = .ok (.lload_n 1, 1) := by decide +kernel
theorem dX1_note_18 : decode cX1_note 18 = .ok (.lcmp, 1) := by decide +kernel
theorem dX1_note_19 : decode cX1_note 19 = .ok (.ifCond .le 9, 3) := by decide +kernel
theorem dX1_note_22 : decode cX1_note 22 = .ok (.iinc 3 (-1), 3) := by decide +kernel
theorem dX1_note_25 : decode cX1_note 25 = .ok (.goto (-20), 3) := by decide +kernel
theorem dX1_note_28 : decode cX1_note 28 = .ok (.iload_n 3, 1) := by decide +kernel
theorem dX1_note_29 : decode cX1_note 29 = .ok (.ifCond .le 31, 3) := by decide +kernel
theorem dX1_note_32 : decode cX1_note 32 = .ok (.aload_n 0, 1) := by decide +kernel
theorem dX1_note_33 : decode cX1_note 33 = .ok (.getfield 7, 3) := by decide +kernel
theorem dX1_note_36 : decode cX1_note 36 = .ok (.iload_n 3, 1) := by decide +kernel
theorem dX1_note_37 : decode cX1_note 37 = .ok (.iconst 1, 1) := by decide +kernel
theorem dX1_note_38 : decode cX1_note 38 = .ok (.isub, 1) := by decide +kernel
theorem dX1_note_39 : decode cX1_note 39 = .ok (.laload, 1) := by decide +kernel
theorem dX1_note_40 : decode cX1_note 40 = .ok (.lload_n 1, 1) := by decide +kernel
theorem dX1_note_41 : decode cX1_note 41 = .ok (.lcmp, 1) := by decide +kernel
theorem dX1_note_42 : decode cX1_note 42 = .ok (.ifCond .ne 18, 3) := by decide +kernel
theorem dX1_note_45 : decode cX1_note 45 = .ok (.aload_n 0, 1) := by decide +kernel
theorem dX1_note_46 : decode cX1_note 46 = .ok (.getfield 13, 3) := by decide +kernel
theorem dX1_note_49 : decode cX1_note 49 = .ok (.iload_n 3, 1) := by decide +kernel
theorem dX1_note_50 : decode cX1_note 50 = .ok (.iconst 1, 1) := by decide +kernel
theorem dX1_note_51 : decode cX1_note 51 = .ok (.isub, 1) := by decide +kernel
theorem dX1_note_52 : decode cX1_note 52 = .ok (.dup2, 1) := by decide +kernel
theorem dX1_note_53 : decode cX1_note 53 = .ok (.iaload, 1) := by decide +kernel
theorem dX1_note_54 : decode cX1_note 54 = .ok (.iconst 1, 1) := by decide +kernel
theorem dX1_note_55 : decode cX1_note 55 = .ok (.iadd, 1) := by decide +kernel
theorem dX1_note_56 : decode cX1_note 56 = .ok (.iastore, 1) := by decide +kernel
theorem dX1_note_57 : decode cX1_note 57 = .ok (.goto 89, 3) := by decide +kernel
theorem dX1_note_60 : decode cX1_note 60 = .ok (.aload_n 0, 1) := by decide +kernel
theorem dX1_note_61 : decode cX1_note 61 = .ok (.getfield 17, 3) := by decide +kernel
theorem dX1_note_64 : decode cX1_note 64 = .ok (.aload_n 0, 1) := by decide +kernel
theorem dX1_note_65 : decode cX1_note 65 = .ok (.getfield 7, 3) := by decide +kernel
theorem dX1_note_68 : decode cX1_note 68 = .ok (.arraylength, 1) := by decide +kernel
theorem dX1_note_69 : decode cX1_note 69 = .ok (.if_icmp .ge 77, 3) := by decide +kernel
theorem dX1_note_72 : decode cX1_note 72 = .ok (.aload_n 0, 1) := by decide +kernel
theorem dX1_note_73 : decode cX1_note 73 = .ok (.getfield 17, 3) := by decide +kernel
theorem dX1_note_76 : decode cX1_note 76 = .ok (.istore 4, 2) := by decide +kernel
theorem dX1_note_78 : decode cX1_note 78 = .ok (.iload 4, 2) := by decide +kernel
theorem dX1_note_80 : decode cX1_note 80 = .ok (.iload_n 3, 1) := by decide +kernel
theorem dX1_note_81 : decode cX1_note 81 = .ok (.if_icmp .le 41, 3) := by decide +kernel
theorem dX1_note_84 : decode cX1_note 84 = .ok (.aload_n 0, 1) := by decide +kernel
theorem dX1_note_85 : decode cX1_note 85 = .ok (.getfield 7, 3) := by decide +kernel
theorem dX1_note_88 : decode cX1_note 88 = .ok (.iload 4, 2) := by decide +kernel
theorem dX1_note_90 : decode cX1_note 90 = .ok (.aload_n 0, 1) := by decide +kernel
theorem dX1_note_91 : decode cX1_note 91 = .ok (.getfield 7, 3) := by decide +kernel
theorem dX1_note_94 : decode cX1_note 94 = .ok (.iload 4, 2) := by decide +kernel
theorem dX1_note_96 : decode cX1_note 96 = .ok (.iconst 1, 1) := by decide +kernel
theorem dX1_note_97 : decode cX1_note 97 = .ok (.isub, 1) := by decide +kernel
theorem dX1_note_98 : decode cX1_note 98 = .ok (.laload, 1) := by decide +kernel
theorem dX1_note_99 : decode cX1_note 99 = .ok (.lastore, 1) := by decide +kernel
theorem dX1_note_100 : decode cX1_note 100 = .ok (.aload_n 0, 1) := by decide +kernel
theorem dX1_note_101 : decode cX1_note 101 = .ok (.getfield 13, 3) := by decide +kernel
theorem dX1_note_104 : decode cX1_note 104 = .ok (.iload 4, 2) := by decide +kernel
theorem dX1_note_106 : decode cX1_note 106 = .ok (.aload_n 0, 1) := by decide +kernel
theorem dX1_note_107 : decode cX1_note 107 = .ok (.getfield 13, 3) := by decide +kernel
theorem dX1_note_110 : decode cX1_note 110 = .ok (.iload 4, 2) := by decide +kernel
theorem dX1_note_112 : decode cX1_note 112 = .ok (.iconst 1, 1) := by decide +kernel
theorem dX1_note_113 : decode cX1_note 113 = .ok (.isub, 1) := by decide +kernel
theorem dX1_note_114 : decode cX1_note 114 = .ok (.iaload, 1) := by decide +kernel
theorem dX1_note_115 : decode cX1_note 115 = .ok (.iastore, 1) := by decide +kernel
theorem dX1_note_116 : decode cX1_note 116 = .ok (.iinc 4 (-1), 3) := by decide +kernel
theorem dX1_note_119 : decode cX1_note 119 = .ok (.goto (-41), 3) := by decide +kernel
theorem dX1_note_122 : decode cX1_note 122 = .ok (.aload_n 0, 1) := by decide +kernel
theorem dX1_note_123 : decode cX1_note 123 = .ok (.getfield 7, 3) := by decide +kernel
theorem dX1_note_126 : decode cX1_note 126 = .ok (.iload_n 3, 1) := by decide +kernel
theorem dX1_note_127 : decode cX1_note 127 = .ok (.lload_n 1, 1) := by decide +kernel
theorem dX1_note_128 : decode cX1_note 128 = .ok (.lastore, 1) := by decide +kernel
theorem dX1_note_129 : decode cX1_note 129 = .ok (.aload_n 0, 1) := by decide +kernel
theorem dX1_note_130 : decode cX1_note 130 = .ok (.getfield 13, 3) := by decide +kernel
theorem dX1_note_133 : decode cX1_note 133 = .ok (.iload_n 3, 1) := by decide +kernel
theorem dX1_note_134 : decode cX1_note 134 = .ok (.iconst 1, 1) := by decide +kernel
theorem dX1_note_135 : decode cX1_note 135 = .ok (.iastore, 1) := by decide +kernel
theorem dX1_note_136 : decode cX1_note 136 = .ok (.aload_n 0, 1) := by decide +kernel
theorem dX1_note_137 : decode cX1_note 137 = .ok (.dup, 1) := by decide +kernel
theorem dX1_note_138 : decode cX1_note 138 = .ok (.getfield 17, 3) := by decide +kernel
theorem dX1_note_141 : decode cX1_note 141 = .ok (.iconst 1, 1) := by decide +kernel
theorem dX1_note_142 : decode cX1_note 142 = .ok (.iadd, 1) := by decide +kernel
theorem dX1_note_143 : decode cX1_note 143 = .ok (.putfield 17, 3) := by decide +kernel
theorem dX1_note_146 : decode cX1_note 146 = .ok (.return_, 1) := by decide +kernel
theorem dX2_init_0 : decode cX2_init 0 = .ok (.aload_n 0, 1) := by decide +kernel
theorem dX2_init_1 : decode cX2_init 1 = .ok (.invokespecial 3, 3) := by decide +kernel
theorem dX2_init_4 : decode cX2_init 4 = .ok (.aload_n 0, 1) := by decide +kernel
theorem dX2_init_5 : decode cX2_init 5 = .ok (.iconst 5, 1) := by decide +kernel
theorem dX2_init_6 : decode cX2_init 6 = .ok (.newarray .int, 2) := by decide +kernel
theorem dX2_init_8 : decode cX2_init 8 = .ok (.putfield 9, 3) := by decide +kernel
theorem dX2_init_11 : decode cX2_init 11 = .ok (.return_, 1) := by decide +kernel
theorem dX2_start_0 : decode cX2_start 0 = .ok (.aload_n 0, 1) := by decide +kernel
theorem dX2_start_1 : decode cX2_start 1 = .ok (.iload_n 1, 1) := by decide +kernel
theorem dX2_start_2 : decode cX2_start 2 = .ok (.aload_n 0, 1) := by decide +kernel
theorem dX2_start_3 : decode cX2_start 3 = .ok (.getfield 9, 3) := by decide +kernel
theorem dX2_start_6 : decode cX2_start 6 = .ok (.arraylength, 1) := by decide +kernel
theorem dX2_start_7 : decode cX2_start 7 = .ok (.invokestatic 15, 3) := by decide +kernel
theorem dX2_start_10 : decode cX2_start 10 = .ok (.putfield 21, 3) := by decide +kernel
theorem dX2_start_13 : decode cX2_start 13 = .ok (.iconst 0, 1) := by decide +kernel
theorem dX2_start_14 : decode cX2_start 14 = .ok (.istore_n 2, 1) := by decide +kernel
theorem dX2_start_15 : decode cX2_start 15 = .ok (.iload_n 2, 1) := by decide +kernel
theorem dX2_start_16 : decode cX2_start 16 = .ok (.aload_n 0, 1) := by decide +kernel
theorem dX2_start_17 : decode cX2_start 17 = .ok (.getfield 21, 3) := by decide +kernel
theorem dX2_start_20 : decode cX2_start 20 = .ok (.if_icmp .ge 16, 3) := by decide +kernel
theorem dX2_start_23 : decode cX2_start 23 = .ok (.aload_n 0, 1) := by decide +kernel
theorem dX2_start_24 : decode cX2_start 24 = .ok (.getfield 9, 3) := by decide +kernel
theorem dX2_start_27 : decode cX2_start 27 = .ok (.iload_n 2, 1) := by decide +kernel
theorem dX2_start_28 : decode cX2_start 28 = .ok (.iload_n 2, 1) := by decide +kernel
theorem dX2_start_29 : decode cX2_start 29 = .ok (.iastore, 1) := by decide +kernel
theorem dX2_start_30 : decode cX2_start 30 = .ok (.iinc 2 1, 3) := by decide +kernel
theorem dX2_start_33 : decode cX2_start 33 = .ok (.goto (-18), 3) := by decide +kernel
theorem dX2_start_36 : decode cX2_start 36 = .ok (.return_, 1) := by decide +kernel
theorem dX2_advance_0 : decode cX2_advance 0 = .ok (.aload_n 0, 1) := by decide +kernel
theorem dX2_advance_1 : decode cX2_advance 1 = .ok (.getfield 21, 3) := by decide +kernel
theorem dX2_advance_4 : decode cX2_advance 4 = .ok (.iconst 2, 1) := by decide +kernel
theorem dX2_advance_5 : decode cX2_advance 5 = .ok (.isub, 1) := by decide +kernel
theorem dX2_advance_6 : decode cX2_advance 6 = .ok (.istore_n 1, 1) := by decide +kernel
theorem dX2_advance_7 : decode cX2_advance 7 = .ok (.iload_n 1, 1) := by decide +kernel
theorem dX2_advance_8 : decode cX2_advance 8 = .ok (.ifCond .lt 26, 3) := by decide +kernel
theorem dX2_advance_11 : decode cX2_advance 11 = .ok (.aload_n 0, 1) := by decide +kernel
theorem dX2_advance_12 : decode cX2_advance 12 = .ok (.getfield 9, 3) := by decide +kernel
theorem dX2_advance_15 : decode cX2_advance 15 = .ok (.iload_n 1, 1) := by decide +kernel
theorem dX2_advance_16 : decode cX2_advance 16 = .ok (.iaload, 1) := by decide +kernel
theorem dX2_advance_17 : decode cX2_advance 17 = .ok (.aload_n 0, 1) := by decide +kernel
theorem dX2_advance_18 : decode cX2_advance 18 = .ok (.getfield 9, 3) := by decide +kernel
theorem dX2_advance_21 : decode cX2_advance 21 = .ok (.iload_n 1, 1) := by decide +kernel
theorem dX2_advance_22 : decode cX2_advance 22 = .ok (.iconst 1, 1) := by decide +kernel
theorem dX2_advance_23 : decode cX2_advance 23 = .ok (.iadd, 1) := by decide +kernel
theorem dX2_advance_24 : decode cX2_advance 24 = .ok (.iaload, 1) := by decide +kernel
theorem dX2_advance_25 : decode cX2_advance 25 = .ok (.if_icmp .le 9, 3) := by decide +kernel
theorem dX2_advance_28 : decode cX2_advance 28 = .ok (.iinc 1 (-1), 3) := by decide +kernel
theorem dX2_advance_31 : decode cX2_advance 31 = .ok (.goto (-24), 3) := by decide +kernel
theorem dX2_advance_34 : decode cX2_advance 34 = .ok (.iload_n 1, 1) := by decide +kernel
theorem dX2_advance_35 : decode cX2_advance 35 = .ok (.ifCond .ge 5, 3) := by decide +kernel
theorem dX2_advance_38 : decode cX2_advance 38 = .ok (.iconst 0, 1) := by decide +kernel
theorem dX2_advance_39 : decode cX2_advance 39 = .ok (.ireturn, 1) := by decide +kernel
theorem dX2_advance_40 : decode cX2_advance 40 = .ok (.aload_n 0, 1) := by decide +kernel
theorem dX2_advance_41 : decode cX2_advance 41 = .ok (.getfield 21, 3) := by decide +kernel
theorem dX2_advance_44 : decode cX2_advance 44 = .ok (.iconst 1, 1) := by decide +kernel
theorem dX2_advance_45 : decode cX2_advance 45 = .ok (.isub, 1) := by decide +kernel
theorem dX2_advance_46 : decode cX2_advance 46 = .ok (.istore_n 2, 1) := by decide +kernel
theorem dX2_advance_47 : decode cX2_advance 47 = .ok (.iload_n 2, 1) := by decide +kernel
theorem dX2_advance_48 : decode cX2_advance 48 = .ok (.iload_n 1, 1) := by decide +kernel
theorem dX2_advance_49 : decode cX2_advance 49 = .ok (.if_icmp .le 24, 3) := by decide +kernel
theorem dX2_advance_52 : decode cX2_advance 52 = .ok (.aload_n 0, 1) := by decide +kernel
theorem dX2_advance_53 : decode cX2_advance 53 = .ok (.getfield 9, 3) := by decide +kernel
theorem dX2_advance_56 : decode cX2_advance 56 = .ok (.iload_n 2, 1) := by decide +kernel
theorem dX2_advance_57 : decode cX2_advance 57 = .ok (.iaload, 1) := by decide +kernel
theorem dX2_advance_58 : decode cX2_advance 58 = .ok (.aload_n 0, 1) := by decide +kernel
theorem dX2_advance_59 : decode cX2_advance 59 = .ok (.getfield 9, 3) := by decide +kernel
theorem dX2_advance_62 : decode cX2_advance 62 = .ok (.iload_n 1, 1) := by decide +kernel
theorem dX2_advance_63 : decode cX2_advance 63 = .ok (.iaload, 1) := by decide +kernel
theorem dX2_advance_64 : decode cX2_advance 64 = .ok (.if_icmp .ge 9, 3) := by decide +kernel
theorem dX2_advance_67 : decode cX2_advance 67 = .ok (.iinc 2 (-1), 3) := by decide +kernel
theorem dX2_advance_70 : decode cX2_advance 70 = .ok (.goto (-23), 3) := by decide +kernel
theorem dX2_advance_73 : decode cX2_advance 73 = .ok (.aload_n 0, 1) := by decide +kernel
theorem dX2_advance_74 : decode cX2_advance 74 = .ok (.iload_n 1, 1) := by decide +kernel
theorem dX2_advance_75 : decode cX2_advance 75 = .ok (.iload_n 2, 1) := by decide +kernel
theorem dX2_advance_76 : decode cX2_advance 76 = .ok (.invokevirtual 25, 3) := by decide +kernel
theorem dX2_advance_79 : decode cX2_advance 79 = .ok (.iload_n 1, 1) := by decide +kernel
theorem dX2_advance_80 : decode cX2_advance 80 = .ok (.iconst 1, 1) := by decide +kernel
theorem dX2_advance_81 : decode cX2_advance 81 = .ok (.iadd, 1) := by decide +kernel
theorem dX2_advance_82 : decode cX2_advance 82 = .ok (.istore_n 3, 1) := by decide +kernel
theorem dX2_advance_83 : decode cX2_advance 83 = .ok (.aload_n 0, 1) := by decide +kernel
theorem dX2_advance_84 : decode cX2_advance 84 = .ok (.getfield 21, 3) := by decide +kernel
theorem dX2_advance_87 : decode cX2_advance 87 = .ok (.iconst 1, 1) := by decide +kernel
theorem dX2_advance_88 : decode cX2_advance 88 = .ok (.isub, 1) := by decide +kernel
theorem dX2_advance_89 : decode cX2_advance 89 = .ok (.istore 4, 2) := by decide +kernel
theorem dX2_advance_91 : decode cX2_advance 91 = .ok (.iload 4, 2) := by decide +kernel
theorem dX2_advance_93 : decode cX2_advance 93 = .ok (.iload_n 3, 1) := by decide +kernel
theorem dX2_advance_94 : decode cX2_advance 94 = .ok (.if_icmp .le 19, 3) := by decide +kernel
theorem dX2_advance_97 : decode cX2_advance 97 = .ok (.aload_n 0, 1) := by decide +kernel
theorem dX2_advance_98 : decode cX2_advance 98 = .ok (.iload_n 3, 1) := by decide +kernel
theorem dX2_advance_99 : decode cX2_advance 99 = .ok (.iload 4, 2) := by decide +kernel
theorem dX2_advance_101 : decode cX2_advance 101 = .ok (.invokevirtual 25, 3) := by decide +kernel
theorem dX2_advance_104 : decode cX2_advance 104 = .ok (.iinc 3 1, 3) := by decide +kernel
theorem dX2_advance_107 : decode cX2_advance 107 = .ok (.iinc 4 (-1), 3) := by decide +kernel
theorem dX2_advance_110 : decode cX2_advance 110 = .ok (.goto (-19), 3) := by decide +kernel
theorem dX2_advance_113 : decode cX2_advance 113 = .ok (.iconst 1, 1) := by decide +kernel
theorem dX2_advance_114 : decode cX2_advance 114 = .ok (.ireturn, 1) := by decide +kernel
theorem dX2_mark_0 : decode cX2_mark 0 = .ok (.aload_n 0, 1) := by decide +kernel
theorem dX2_mark_1 : decode cX2_mark 1 = .ok (.iload_n 3, 1) := by decide +kernel
theorem dX2_mark_2 : decode cX2_mark 2 = .ok (.invokevirtual 29, 3) := by decide +kernel
theorem dX2_mark_5 : decode cX2_mark 5 = .ok (.iconst 1, 1) := by decide +kernel
theorem dX2_mark_6 : decode cX2_mark 6 = .ok (.istore 5, 2) := by decide +kernel
theorem dX2_mark_8 : decode cX2_mark 8 = .ok (.iconst 0, 1) := by decide +kernel
theorem dX2_mark_9 : decode cX2_mark 9 = .ok (.istore 6, 2) := by decide +kernel
theorem dX2_mark_11 : decode cX2_mark 11 = .ok (.iload 6, 2) := by decide +kernel
theorem dX2_mark_13 : decode cX2_mark 13 = .ok (.bipush 120, 2) := by decide +kernel
theorem dX2_mark_15 : decode cX2_mark 15 = .ok (.if_icmp .ge 44, 3) := by decide +kernel
theorem dX2_mark_18 : decode cX2_mark 18 = .ok (.iload 5, 2) := by decide +kernel
theorem dX2_mark_20 : decode cX2_mark 20 = .ok (.ifCond .eq 39, 3) := by decide +kernel
theorem dX2_mark_23 : decode cX2_mark 23 = .ok (.aload_n 0, 1) := by decide +kernel
theorem dX2_mark_24 : decode cX2_mark 24 = .ok (.lload_n 1, 1) := by decide +kernel
theorem dX2_mark_25 : decode cX2_mark 25 = .ok (.invokevirtual 33, 3) := by decide +kernel
theorem dX2_mark_28 : decode cX2_mark 28 = .ok (.lstore 7, 2) := by decide +kernel
theorem dX2_mark_30 : decode cX2_mark 30 = .ok (.lload 7, 2) := by decide +kernel
theorem dX2_mark_32 : decode cX2_mark 32 = .ok (.aload 4, 2) := by decide +kernel
theorem dX2_mark_34 : decode cX2_mark 34 = .ok (.arraylength, 1) := by decide +kernel
theorem dX2_mark_35 : decode cX2_mark 35 = .ok (.i2l, 1) := by decide +kernel
theorem dX2_mark_36 : decode cX2_mark 36 = .ok (.lcmp, 1) := by decide +kernel
theorem dX2_mark_37 : decode cX2_mark 37 = .ok (.ifCond .ge 10, 3) := by decide +kernel
theorem dX2_mark_40 : decode cX2_mark 40 = .ok (.aload 4, 2) := by decide +kernel
theorem dX2_mark_42 : decode cX2_mark 42 = .ok (.lload 7, 2) := by decide +kernel
theorem dX2_mark_44 : decode cX2_mark 44 = .ok (.l2i, 1) := by decide +kernel
theorem dX2_mark_45 : decode cX2_mark 45 = .ok (.iconst 1, 1) := by decide +kernel
theorem dX2_mark_46 : decode cX2_mark 46 = .ok (.iastore, 1) := by decide +kernel
theorem dX2_mark_47 : decode cX2_mark 47 = .ok (.aload_n 0, 1) := by decide +kernel
theorem dX2_mark_48 : decode cX2_mark 48 = .ok (.invokevirtual 37, 3) := by decide +kernel
theorem dX2_mark_51 : decode cX2_mark 51 = .ok (.istore 5, 2) := by decide +kernel
theorem dX2_mark_53 : decode cX2_mark 53 = .ok (.iinc 6 1, 3) := by decide +kernel
theorem dX2_mark_56 : decode cX2_mark 56 = .ok (.goto (-45), 3) := by decide +kernel
theorem dX2_mark_59 : decode cX2_mark 59 = .ok (.return_, 1) := by decide +kernel
theorem dX2_renamed_0 : decode cX2_renamed 0 = .ok (.lconst 0, 1) := by decide +kernel
theorem dX2_renamed_1 : decode cX2_renamed 1 = .ok (.lstore_n 3, 1) := by decide +kernel
theorem dX2_renamed_2 : decode cX2_renamed 2 = .ok (.iconst 1, 1) := by decide +kernel
theorem dX2_renamed_3 : decode cX2_renamed 3 = .ok (.istore 5, 2) := by decide +kernel
theorem dX2_renamed_5 : decode cX2_renamed 5 = .ok (.iload 5, 2) := by decide +kernel
theorem dX2_renamed_7 : decode cX2_renamed 7 = .ok (.aload_n 0, 1) := by decide +kernel
theorem dX2_renamed_8 : decode cX2_renamed 8 = .ok (.getfield 21, 3) := by decide +kernel
theorem dX2_renamed_11 : decode cX2_renamed 11 = .ok (.if_icmp .ge 63, 3) := by decide +kernel
theorem dX2_renamed_14 : decode cX2_renamed 14 = .ok (.iconst 0, 1) := by decide +kernel
theorem dX2_renamed_15 : decode cX2_renamed 15 = .ok (.istore 6, 2) := by decide +kernel
theorem dX2_renamed_17 : decode cX2_renamed 17 = .ok (.iload 6, 2) := by decide +kernel
theorem dX2_renamed_19 : decode cX2_renamed 19 = .ok (.iload 5, 2) := by decide +kernel
theorem dX2_renamed_21 : decode cX2_renamed 21 = .ok (.if_icmp .ge 47, 3) := by decide +kernel
theorem dX2_renamed_24 : decode cX2_renamed 24 = .ok (.lload_n 1, 1) := by decide +kernel
theorem dX2_renamed_25 : decode cX2_renamed 25 = .ok (.iload 6, 2) := by decide +kernel
theorem dX2_renamed_27 : decode cX2_renamed 27 = .ok (.iload 5, 2) := by decide +kernel
theorem dX2_renamed_29 : decode cX2_renamed 29 = .ok (.invokestatic 41, 3) := by decide +kernel
theorem dX2_renamed_32 : decode cX2_renamed 32 = .ok (.lshr, 1) := by decide +kernel
theorem dX2_renamed_33 : decode cX2_renamed 33 = .ok (.lconst 1, 1) := by decide +kernel
theorem dX2_renamed_34 : decode cX2_renamed 34 = .ok (.land, 1) := by decide +kernel
theorem dX2_renamed_35 : decode cX2_renamed 35 = .ok (.lconst 0, 1) := by decide +kernel
theorem dX2_renamed_36 : decode cX2_renamed 36 = .ok (.lcmp, 1) := by decide +kernel
theorem dX2_renamed_37 : decode cX2_renamed 37 = .ok (.ifCond .eq 25, 3) := by decide +kernel
theorem dX2_renamed_40 : decode cX2_renamed 40 = .ok (.lload_n 3, 1) := by decide +kernel
theorem dX2_renamed_41 : decode cX2_renamed 41 = .ok (.lconst 1, 1) := by decide +kernel
theorem dX2_renamed_42 : decode cX2_renamed 42 = .ok (.aload_n 0, 1) := by decide +kernel
theorem dX2_renamed_43 : decode cX2_renamed 43 = .ok (.getfield 9, 3) := by decide +kernel
theorem dX2_renamed_46 : decode cX2_renamed 46 = .ok (.iload 6, 2) := by decide +kernel
theorem dX2_renamed_48 : decode cX2_renamed 48 = .ok (.iaload, 1) := by decide +kernel
theorem dX2_renamed_49 : decode cX2_renamed 49 = .ok (.aload_n 0, 1) := by decide +kernel
theorem dX2_renamed_50 : decode cX2_renamed 50 = .ok (.getfield 9, 3) := by decide +kernel
theorem dX2_renamed_53 : decode cX2_renamed 53 = .ok (.iload 5, 2) := by decide +kernel
theorem dX2_renamed_55 : decode cX2_renamed 55 = .ok (.iaload, 1) := by decide +kernel
theorem dX2_renamed_56 : decode cX2_renamed 56 = .ok (.invokestatic 41, 3) := by decide +kernel
theorem dX2_renamed_59 : decode cX2_renamed 59 = .ok (.lshl, 1) := by decide +kernel
theorem dX2_renamed_60 : decode cX2_renamed 60 = .ok (.lor, 1) := by decide +kernel
theorem dX2_renamed_61 : decode cX2_renamed 61 = .ok (.lstore_n 3, 1) := by decide +kernel
theorem dX2_renamed_62 : decode cX2_renamed 62 = .ok (.iinc 6 1, 3) := by decide +kernel
theorem dX2_renamed_65 : decode cX2_renamed 65 = .ok (.goto (-48), 3) := by decide +kernel
theorem dX2_renamed_68 : decode cX2_renamed 68 = .ok (.iinc 5 1, 3) := by decide +kernel
theorem dX2_renamed_71 : decode cX2_renamed 71 = .ok (.goto (-66), 3) := by decide +kernel
theorem dX2_renamed_74 : decode cX2_renamed 74 = .ok (.lload_n 3, 1) := by decide +kernel
theorem dX2_renamed_75 : decode cX2_renamed 75 = .ok (.lreturn, 1) := by decide +kernel
theorem dX2_swap_0 : decode cX2_swap 0 = .ok (.aload_n 0, 1) := by decide +kernel
theorem dX2_swap_1 : decode cX2_swap 1 = .ok (.getfield 9, 3) := by decide +kernel
theorem dX2_swap_4 : decode cX2_swap 4 = .ok (.iload_n 1, 1) := by decide +kernel
theorem dX2_swap_5 : decode cX2_swap 5 = .ok (.iaload, 1) := by decide +kernel
theorem dX2_swap_6 : decode cX2_swap 6 = .ok (.istore_n 3, 1) := by decide +kernel
theorem dX2_swap_7 : decode cX2_swap 7 = .ok (.aload_n 0, 1) := by decide +kernel
theorem dX2_swap_8 : decode cX2_swap 8 = .ok (.getfield 9, 3) := by decide +kernel
theorem dX2_swap_11 : decode cX2_swap 11 = .ok (.iload_n 1, 1) := by decide +kernel
theorem dX2_swap_12 : decode cX2_swap 12 = .ok (.aload_n 0, 1) := by decide +kernel
theorem dX2_swap_13 : decode cX2_swap 13 = .ok (.getfield 9, 3) := by decide +kernel
theorem dX2_swap_16 : decode cX2_swap 16 = .ok (.iload_n 2, 1) := by decide +kernel
theorem dX2_swap_17 : decode cX2_swap 17 = .ok (.iaload, 1) := by decide +kernel
theorem dX2_swap_18 : decode cX2_swap 18 = .ok (.iastore, 1) := by decide +kernel
theorem dX2_swap_19 : decode cX2_swap 19 = .ok (.aload_n 0, 1) := by decide +kernel
theorem dX2_swap_20 : decode cX2_swap 20 = .ok (.getfield 9, 3) := by decide +kernel
theorem dX2_swap_23 : decode cX2_swap 23 = .ok (.iload_n 2, 1) := by decide +kernel
theorem dX2_swap_24 : decode cX2_swap 24 = .ok (.iload_n 3, 1) := by decide +kernel
theorem dX2_swap_25 : decode cX2_swap 25 = .ok (.iastore, 1) := by decide +kernel
theorem dX2_swap_26 : decode cX2_swap 26 = .ok (.return_, 1) := by decide +kernel
theorem dX3_init_0 : decode cX3_init 0 = .ok (.aload_n 0, 1) := by decide +kernel
theorem dX3_init_1 : decode cX3_init 1 = .ok (.invokespecial 3, 3) := by decide +kernel
theorem dX3_init_4 : decode cX3_init 4 = .ok (.aload_n 0, 1) := by decide +kernel
theorem dX3_init_5 : decode cX3_init 5 = .ok (.bipush 45, 2) := by decide +kernel
theorem dX3_init_7 : decode cX3_init 7 = .ok (.newarray .int, 2) := by decide +kernel
theorem dX3_init_9 : decode cX3_init 9 = .ok (.putfield 9, 3) := by decide +kernel
theorem dX3_init_12 : decode cX3_init 12 = .ok (.aload_n 0, 1) := by decide +kernel
theorem dX3_init_13 : decode cX3_init 13 = .ok (.bipush 45, 2) := by decide +kernel
theorem dX3_init_15 : decode cX3_init 15 = .ok (.newarray .int, 2) := by decide +kernel
theorem dX3_init_17 : decode cX3_init 17 = .ok (.putfield 15, 3) := by decide +kernel
theorem dX3_init_20 : decode cX3_init 20 = .ok (.aload_n 0, 1) := by decide +kernel
theorem dX3_init_21 : decode cX3_init 21 = .ok (.bipush 10, 2) := by decide +kernel
theorem dX3_init_23 : decode cX3_init 23 = .ok (.newarray .long, 2) := by decide +kernel
theorem dX3_init_25 : decode cX3_init 25 = .ok (.putfield 18, 3) := by decide +kernel
theorem dX3_init_28 : decode cX3_init 28 = .ok (.iconst 0, 1) := by decide +kernel
theorem dX3_init_29 : decode cX3_init 29 = .ok (.istore_n 1, 1) := by decide +kernel
theorem dX3_init_30 : decode cX3_init 30 = .ok (.iconst 1, 1) := by decide +kernel
theorem dX3_init_31 : decode cX3_init 31 = .ok (.istore_n 2, 1) := by decide +kernel
theorem dX3_init_32 : decode cX3_init 32 = .ok (.iload_n 2, 1) := by decide +kernel
theorem dX3_init_33 : decode cX3_init 33 = .ok (.bipush 10, 2) := by decide +kernel
theorem dX3_init_35 : decode cX3_init 35 = .ok (.if_icmp .ge 63, 3) := by decide +kernel
theorem dX3_init_38 : decode cX3_init 38 = .ok (.iconst 0, 1) := by decide +kernel
theorem dX3_init_39 : decode cX3_init 39 = .ok (.istore_n 3, 1) := by decide +kernel
theorem dX3_init_40 : decode cX3_init 40 = .ok (.iload_n 3, 1) := by decide +kernel
theorem dX3_init_41 : decode cX3_init 41 = .ok (.iload_n 2, 1) := by decide +kernel
theorem dX3_init_42 : decode cX3_init 42 = .ok (.if_icmp .ge 50, 3) := by decide +kernel
theorem dX3_init_45 : decode cX3_init 45 = .ok (.aload_n 0, 1) := by decide +kernel
theorem dX3_init_46 : decode cX3_init 46 = .ok (.getfield 9, 3) := by decide +kernel
theorem dX3_init_49 : decode cX3_init 49 = .ok (.iload_n 1, 1) := by decide +kernel
theorem dX3_init_50 : decode cX3_init 50 = .ok (.iload_n 3, 1) := by decide +kernel
theorem dX3_init_51 : decode cX3_init 51 = .ok (.iastore, 1) := by decide +kernel
theorem dX3_init_52 : decode cX3_init 52 = .ok (.aload_n 0, 1) := by decide +kernel
theorem dX3_init_53 : decode cX3_init 53 = .ok (.getfield 15, 3) := by decide +kernel
theorem dX3_init_56 : decode cX3_init 56 = .ok (.iload_n 1, 1) := by decide +kernel
theorem dX3_init_57 : decode cX3_init 57 = .ok (.iload_n 2, 1) := by decide +kernel
theorem dX3_init_58 : decode cX3_init 58 = .ok (.iastore, 1) := by decide +kernel
theorem dX3_init_59 : decode cX3_init 59 = .ok (.aload_n 0, 1) := by decide +kernel
theorem dX3_init_60 : decode cX3_init 60 = .ok (.getfield 18, 3) := by decide +kernel
theorem dX3_init_63 : decode cX3_init 63 = .ok (.iload_n 3, 1) := by decide +kernel
theorem dX3_init_64 : decode cX3_init 64 = .ok (.dup2, 1) := by decide +kernel
theorem dX3_init_65 : decode cX3_init 65 = .ok (.laload, 1) := by decide +kernel
theorem dX3_init_66 : decode cX3_init 66 = .ok (.lconst 1, 1) := by decide +kernel
theorem dX3_init_67 : decode cX3_init 67 = .ok (.iload_n 1, 1) := by decide +kernel
theorem dX3_init_68 : decode cX3_init 68 = .ok (.lshl, 1) := by decide +kernel
theorem dX3_init_69 : decode cX3_init 69 = .ok (.lor, 1) := by decide +kernel
theorem dX3_init_70 : decode cX3_init 70 = .ok (.lastore, 1) := by decide +kernel
theorem dX3_init_71 : decode cX3_init 71 = .ok (.aload_n 0, 1) := by decide +kernel
theorem dX3_init_72 : decode cX3_init 72 = .ok (.getfield 18, 3) := by decide +kernel
theorem dX3_init_75 : decode cX3_init 75 = .ok (.iload_n 2, 1) := by decide +kernel
theorem dX3_init_76 : decode cX3_init 76 = .ok (.dup2, 1) := by decide +kernel
theorem dX3_init_77 : decode cX3_init 77 = .ok (.laload, 1) := by decide +kernel
theorem dX3_init_78 : decode cX3_init 78 = .ok (.lconst 1, 1) := by decide +kernel
theorem dX3_init_79 : decode cX3_init 79 = .ok (.iload_n 1, 1) := by decide +kernel
theorem dX3_init_80 : decode cX3_init 80 = .ok (.lshl, 1) := by decide +kernel
theorem dX3_init_81 : decode cX3_init 81 = .ok (.lor, 1) := by decide +kernel
theorem dX3_init_82 : decode cX3_init 82 = .ok (.lastore, 1) := by decide +kernel
theorem dX3_init_83 : decode cX3_init 83 = .ok (.iinc 1 1, 3) := by decide +kernel
theorem dX3_init_86 : decode cX3_init 86 = .ok (.iinc 3 1, 3) := by decide +kernel
theorem dX3_init_89 : decode cX3_init 89 = .ok (.goto (-49), 3) := by decide +kernel
theorem dX3_init_92 : decode cX3_init 92 = .ok (.iinc 2 1, 3) := by decide +kernel
theorem dX3_init_95 : decode cX3_init 95 = .ok (.goto (-63), 3) := by decide +kernel
theorem dX3_init_98 : decode cX3_init 98 = .ok (.return_, 1) := by decide +kernel
theorem dX3_number_0 : decode cX3_number 0 = .ok (.iload_n 0, 1) := by decide +kernel
theorem dX3_number_1 : decode cX3_number 1 = .ok (.iload_n 1, 1) := by decide +kernel
theorem dX3_number_2 : decode cX3_number 2 = .ok (.invokestatic 22, 3) := by decide +kernel
theorem dX3_number_5 : decode cX3_number 5 = .ok (.istore_n 2, 1) := by decide +kernel
theorem dX3_number_6 : decode cX3_number 6 = .ok (.iload_n 0, 1) := by decide +kernel
theorem dX3_number_7 : decode cX3_number 7 = .ok (.iload_n 1, 1) := by decide +kernel
theorem dX3_number_8 : decode cX3_number 8 = .ok (.invokestatic 28, 3) := by decide +kernel
theorem dX3_number_11 : decode cX3_number 11 = .ok (.istore_n 3, 1) := by decide +kernel
theorem dX3_number_12 : decode cX3_number 12 = .ok (.iload_n 3, 1) := by decide +kernel
theorem dX3_number_13 : decode cX3_number 13 = .ok (.iload_n 3, 1) := by decide +kernel
theorem dX3_number_14 : decode cX3_number 14 = .ok (.iconst 1, 1) := by decide +kernel
theorem dX3_number_15 : decode cX3_number 15 = .ok (.isub, 1) := by decide +kernel
theorem dX3_number_16 : decode cX3_number 16 = .ok (.imul, 1) := by decide +kernel
theorem dX3_number_17 : decode cX3_number 17 = .ok (.iconst 2, 1) := by decide +kernel
theorem dX3_number_18 : decode cX3_number 18 = .ok (.idiv, 1) := by decide +kernel
theorem dX3_number_19 : decode cX3_number 19 = .ok (.iload_n 2, 1) := by decide +kernel
theorem dX3_number_20 : decode cX3_number 20 = .ok (.iadd, 1) := by decide +kernel
theorem dX3_number_21 : decode cX3_number 21 = .ok (.ireturn, 1) := by decide +kernel
theorem dX3_count_0 : decode cX3_count 0 = .ok (.iload_n 0, 1) := by decide +kernel
theorem dX3_count_1 : decode cX3_count 1 = .ok (.iload_n 0, 1) := by decide +kernel
theorem dX3_count_2 : decode cX3_count 2 = .ok (.iconst 1, 1) := by decide +kernel
theorem dX3_count_3 : decode cX3_count 3 = .ok (.isub, 1) := by decide +kernel
theorem dX3_count_4 : decode cX3_count 4 = .ok (.imul, 1) := by decide +kernel
theorem dX3_count_5 : decode cX3_count 5 = .ok (.iconst 2, 1) := by decide +kernel
theorem dX3_count_6 : decode cX3_count 6 = .ok (.idiv, 1) := by decide +kernel
theorem dX3_count_7 : decode cX3_count 7 = .ok (.ireturn, 1) := by decide +kernel
theorem dX3_star_0 : decode cX3_star 0 = .ok (.aload_n 0, 1) := by decide +kernel
theorem dX3_star_1 : decode cX3_star 1 = .ok (.getfield 18, 3) := by decide +kernel
theorem dX3_star_4 : decode cX3_star 4 = .ok (.iload_n 1, 1) := by decide +kernel
theorem dX3_star_5 : decode cX3_star 5 = .ok (.laload, 1) := by decide +kernel
theorem dX3_star_6 : decode cX3_star 6 = .ok (.lconst 1, 1) := by decide +kernel
theorem dX3_star_7 : decode cX3_star 7 = .ok (.iload_n 2, 1) := by decide +kernel
theorem dX3_star_8 : decode cX3_star 8 = .ok (.invokestatic 31, 3) := by decide +kernel
theorem dX3_star_11 : decode cX3_star 11 = .ok (.lshl, 1) := by decide +kernel
theorem dX3_star_12 : decode cX3_star 12 = .ok (.lconst 1, 1) := by decide +kernel
theorem dX3_star_13 : decode cX3_star 13 = .ok (.lsub, 1) := by decide +kernel
theorem dX3_star_14 : decode cX3_star 14 = .ok (.land, 1) := by decide +kernel
theorem dX3_star_15 : decode cX3_star 15 = .ok (.lreturn, 1) := by decide +kernel
theorem dX3_within_0 : decode cX3_within 0 = .ok (.lconst 0, 1) := by decide +kernel
theorem dX3_within_1 : decode cX3_within 1 = .ok (.lstore_n 3, 1) := by decide +kernel
theorem dX3_within_2 : decode cX3_within 2 = .ok (.iload_n 1, 1) := by decide +kernel
theorem dX3_within_3 : decode cX3_within 3 = .ok (.iconst 1, 1) := by decide +kernel
theorem dX3_within_4 : decode cX3_within 4 = .ok (.iadd, 1) := by decide +kernel
theorem dX3_within_5 : decode cX3_within 5 = .ok (.istore 5, 2) := by decide +kernel
theorem dX3_within_7 : decode cX3_within 7 = .ok (.iload 5, 2) := by decide +kernel
theorem dX3_within_9 : decode cX3_within 9 = .ok (.iload_n 2, 1) := by decide +kernel
theorem dX3_within_10 : decode cX3_within 10 = .ok (.if_icmp .ge 37, 3) := by decide +kernel
theorem dX3_within_13 : decode cX3_within 13 = .ok (.iload_n 1, 1) := by decide +kernel
theorem dX3_within_14 : decode cX3_within 14 = .ok (.istore 6, 2) := by decide +kernel
theorem dX3_within_16 : decode cX3_within 16 = .ok (.iload 6, 2) := by decide +kernel
theorem dX3_within_18 : decode cX3_within 18 = .ok (.iload 5, 2) := by decide +kernel
theorem dX3_within_20 : decode cX3_within 20 = .ok (.if_icmp .ge 21, 3) := by decide +kernel
theorem dX3_within_23 : decode cX3_within 23 = .ok (.lload_n 3, 1) := by decide +kernel
theorem dX3_within_24 : decode cX3_within 24 = .ok (.lconst 1, 1) := by decide +kernel
theorem dX3_within_25 : decode cX3_within 25 = .ok (.iload 6, 2) := by decide +kernel
theorem dX3_within_27 : decode cX3_within 27 = .ok (.iload 5, 2) := by decide +kernel
theorem dX3_within_29 : decode cX3_within 29 = .ok (.invokestatic 35, 3) := by decide +kernel
theorem dX3_within_32 : decode cX3_within 32 = .ok (.lshl, 1) := by decide +kernel
theorem dX3_within_33 : decode cX3_within 33 = .ok (.lor, 1) := by decide +kernel
theorem dX3_within_34 : decode cX3_within 34 = .ok (.lstore_n 3, 1) := by decide +kernel
theorem dX3_within_35 : decode cX3_within 35 = .ok (.iinc 6 1, 3) := by decide +kernel
theorem dX3_within_38 : decode cX3_within 38 = .ok (.goto (-22), 3) := by decide +kernel
theorem dX3_within_41 : decode cX3_within 41 = .ok (.iinc 5 1, 3) := by decide +kernel
theorem dX3_within_44 : decode cX3_within 44 = .ok (.goto (-37), 3) := by decide +kernel
theorem dX3_within_47 : decode cX3_within 47 = .ok (.lload_n 3, 1) := by decide +kernel
theorem dX3_within_48 : decode cX3_within 48 = .ok (.lreturn, 1) := by decide +kernel
theorem dX3_circle_0 : decode cX3_circle 0 = .ok (.lconst 0, 1) := by decide +kernel
theorem dX3_circle_1 : decode cX3_circle 1 = .ok (.lstore 4, 2) := by decide +kernel
theorem dX3_circle_3 : decode cX3_circle 3 = .ok (.iconst (-1), 1) := by decide +kernel
theorem dX3_circle_4 : decode cX3_circle 4 = .ok (.istore 6, 2) := by decide +kernel
theorem dX3_circle_6 : decode cX3_circle 6 = .ok (.iconst (-1), 1) := by decide +kernel
theorem dX3_circle_7 : decode cX3_circle 7 = .ok (.istore 7, 2) := by decide +kernel
theorem dX3_circle_9 : decode cX3_circle 9 = .ok (.iconst 0, 1) := by decide +kernel
theorem dX3_circle_10 : decode cX3_circle 10 = .ok (.istore 8, 2) := by decide +kernel
theorem dX3_circle_12 : decode cX3_circle 12 = .ok (.iload 8, 2) := by decide +kernel
theorem dX3_circle_14 : decode cX3_circle 14 = .ok (.iload_n 1, 1) := by decide +kernel
theorem dX3_circle_15 : decode cX3_circle 15 = .ok (.if_icmp .ge 46, 3) := by decide +kernel
theorem dX3_circle_18 : decode cX3_circle 18 = .ok (.iload 8, 2) := by decide +kernel
theorem dX3_circle_20 : decode cX3_circle 20 = .ok (.iload_n 2, 1) := by decide +kernel
theorem dX3_circle_21 : decode cX3_circle 21 = .ok (.if_icmp .eq 34, 3) := by decide +kernel
theorem dX3_circle_24 : decode cX3_circle 24 = .ok (.iload 7, 2) := by decide +kernel
theorem dX3_circle_26 : decode cX3_circle 26 = .ok (.iconst (-1), 1) := by decide +kernel
theorem dX3_circle_27 : decode cX3_circle 27 = .ok (.if_icmp .ne 10, 3) := by decide +kernel
theorem dX3_circle_30 : decode cX3_circle 30 = .ok (.iload 8, 2) := by decide +kernel
theorem dX3_circle_32 : decode cX3_circle 32 = .ok (.istore 6, 2) := by decide +kernel
theorem dX3_circle_34 : decode cX3_circle 34 = .ok (.goto 17, 3) := by decide +kernel
theorem dX3_circle_37 : decode cX3_circle 37 = .ok (.lload 4, 2) := by decide +kernel
theorem dX3_circle_39 : decode cX3_circle 39 = .ok (.lconst 1, 1) := by decide +kernel
theorem dX3_circle_40 : decode cX3_circle 40 = .ok (.iload 7, 2) := by decide +kernel
theorem dX3_circle_42 : decode cX3_circle 42 = .ok (.iload 8, 2) := by decide +kernel
theorem dX3_circle_44 : decode cX3_circle 44 = .ok (.invokestatic 35, 3) := by decide +kernel
theorem dX3_circle_47 : decode cX3_circle 47 = .ok (.lshl, 1) := by decide +kernel
theorem dX3_circle_48 : decode cX3_circle 48 = .ok (.lor, 1) := by decide +kernel
theorem dX3_circle_49 : decode cX3_circle 49 = .ok (.lstore 4, 2) := by decide +kernel
theorem dX3_circle_51 : decode cX3_circle 51 = .ok (.iload 8, 2) := by decide +kernel
theorem dX3_circle_53 : decode cX3_circle 53 = .ok (.istore 7, 2) := by decide +kernel
theorem dX3_circle_55 : decode cX3_circle 55 = .ok (.iinc 8 1, 3) := by decide +kernel
theorem dX3_circle_58 : decode cX3_circle 58 = .ok (.goto (-46), 3) := by decide +kernel
theorem dX3_circle_61 : decode cX3_circle 61 = .ok (.iload_n 3, 1) := by decide +kernel
theorem dX3_circle_62 : decode cX3_circle 62 = .ok (.ifCond .eq 25, 3) := by decide +kernel
theorem dX3_circle_65 : decode cX3_circle 65 = .ok (.iload 6, 2) := by decide +kernel
theorem dX3_circle_67 : decode cX3_circle 67 = .ok (.iload 7, 2) := by decide +kernel
theorem dX3_circle_69 : decode cX3_circle 69 = .ok (.if_icmp .eq 18, 3) := by decide +kernel
theorem dX3_circle_72 : decode cX3_circle 72 = .ok (.lload 4, 2) := by decide +kernel
theorem dX3_circle_74 : decode cX3_circle 74 = .ok (.lconst 1, 1) := by decide +kernel
theorem dX3_circle_75 : decode cX3_circle 75 = .ok (.iload 6, 2) := by decide +kernel
theorem dX3_circle_77 : decode cX3_circle 77 = .ok (.iload 7, 2) := by decide +kernel
theorem dX3_circle_79 : decode cX3_circle 79 = .ok (.invokestatic 35, 3) := by decide +kernel
theorem dX3_circle_82 : decode cX3_circle 82 = .ok (.lshl, 1) := by decide +kernel
theorem dX3_circle_83 : decode cX3_circle 83 = .ok (.lor, 1) := by decide +kernel
theorem dX3_circle_84 : decode cX3_circle 84 = .ok (.goto 5, 3) := by decide +kernel
theorem dX3_circle_87 : decode cX3_circle 87 = .ok (.lload 4, 2) := by decide +kernel
theorem dX3_circle_89 : decode cX3_circle 89 = .ok (.lreturn, 1) := by decide +kernel
theorem dX4_init_0 : decode cX4_init 0 = .ok (.aload_n 0, 1) := by decide +kernel
theorem dX4_init_1 : decode cX4_init 1 = .ok (.invokespecial 3, 3) := by decide +kernel
theorem dX4_init_4 : decode cX4_init 4 = .ok (.aload_n 0, 1) := by decide +kernel
theorem dX4_init_5 : decode cX4_init 5 = .ok (.bipush 10, 2) := by decide +kernel
theorem dX4_init_7 : decode cX4_init 7 = .ok (.newarray .int, 2) := by decide +kernel
theorem dX4_init_9 : decode cX4_init 9 = .ok (.putfield 9, 3) := by decide +kernel
theorem dX4_init_12 : decode cX4_init 12 = .ok (.aload_n 0, 1) := by decide +kernel
theorem dX4_init_13 : decode cX4_init 13 = .ok (.bipush 10, 2) := by decide +kernel
theorem dX4_init_15 : decode cX4_init 15 = .ok (.newarray .int, 2) := by decide +kernel
theorem dX4_init_17 : decode cX4_init 17 = .ok (.putfield 15, 3) := by decide +kernel
theorem dX4_init_20 : decode cX4_init 20 = .ok (.aload_n 0, 1) := by decide +kernel
theorem dX4_init_21 : decode cX4_init 21 = .ok (.bipush 10, 2) := by decide +kernel
theorem dX4_init_23 : decode cX4_init 23 = .ok (.newarray .int, 2) := by decide +kernel
theorem dX4_init_25 : decode cX4_init 25 = .ok (.putfield 18, 3) := by decide +kernel
theorem dX4_init_28 : decode cX4_init 28 = .ok (.aload_n 0, 1) := by decide +kernel
theorem dX4_init_29 : decode cX4_init 29 = .ok (.aload_n 1, 1) := by decide +kernel
theorem dX4_init_30 : decode cX4_init 30 = .ok (.putfield 21, 3) := by decide +kernel
theorem dX4_init_33 : decode cX4_init 33 = .ok (.return_, 1) := by decide +kernel
theorem dX4_clear_0 : decode cX4_clear 0 = .ok (.aload_n 0, 1) := by decide +kernel
theorem dX4_clear_1 : decode cX4_clear 1 = .ok (.iconst 0, 1) := by decide +kernel
theorem dX4_clear_2 : decode cX4_clear 2 = .ok (.putfield 25, 3) := by decide +kernel
theorem dX4_clear_5 : decode cX4_clear 5 = .ok (.aload_n 0, 1) := by decide +kernel
theorem dX4_clear_6 : decode cX4_clear 6 = .ok (.iconst 0, 1) := by decide +kernel
theorem dX4_clear_7 : decode cX4_clear 7 = .ok (.putfield 29, 3) := by decide +kernel
theorem dX4_clear_10 : decode cX4_clear 10 = .ok (.aload_n 0, 1) := by decide +kernel
theorem dX4_clear_11 : decode cX4_clear 11 = .ok (.iconst 0, 1) := by decide +kernel
theorem dX4_clear_12 : decode cX4_clear 12 = .ok (.putfield 32, 3) := by decide +kernel
theorem dX4_clear_15 : decode cX4_clear 15 = .ok (.aload_n 0, 1) := by decide +kernel
theorem dX4_clear_16 : decode cX4_clear 16 = .ok (.lconst 0, 1) := by decide +kernel
theorem dX4_clear_17 : decode cX4_clear 17 = .ok (.putfield 35, 3) := by decide +kernel
theorem dX4_clear_20 : decode cX4_clear 20 = .ok (.return_, 1) := by decide +kernel
theorem dX4_copy_0 : decode cX4_copy 0 = .ok (.aload_n 0, 1) := by decide +kernel
theorem dX4_copy_1 : decode cX4_copy 1 = .ok (.aload_n 1, 1) := by decide +kernel
theorem dX4_copy_2 : decode cX4_copy 2 = .ok (.getfield 25, 3) := by decide +kernel
theorem dX4_copy_5 : decode cX4_copy 5 = .ok (.putfield 25, 3) := by decide +kernel
theorem dX4_copy_8 : decode cX4_copy 8 = .ok (.aload_n 0, 1) := by decide +kernel
theorem dX4_copy_9 : decode cX4_copy 9 = .ok (.aload_n 1, 1) := by decide +kernel
theorem dX4_copy_10 : decode cX4_copy 10 = .ok (.getfield 29, 3) := by decide +kernel
theorem dX4_copy_13 : decode cX4_copy 13 = .ok (.putfield 29, 3) := by decide +kernel
theorem dX4_copy_16 : decode cX4_copy 16 = .ok (.aload_n 0, 1) := by decide +kernel
theorem dX4_copy_17 : decode cX4_copy 17 = .ok (.aload_n 1, 1) := by decide +kernel
theorem dX4_copy_18 : decode cX4_copy 18 = .ok (.getfield 32, 3) := by decide +kernel
theorem dX4_copy_21 : decode cX4_copy 21 = .ok (.putfield 32, 3) := by decide +kernel
theorem dX4_copy_24 : decode cX4_copy 24 = .ok (.aload_n 0, 1) := by decide +kernel
theorem dX4_copy_25 : decode cX4_copy 25 = .ok (.aload_n 1, 1) := by decide +kernel
theorem dX4_copy_26 : decode cX4_copy 26 = .ok (.getfield 35, 3) := by decide +kernel
theorem dX4_copy_29 : decode cX4_copy 29 = .ok (.putfield 35, 3) := by decide +kernel
theorem dX4_copy_32 : decode cX4_copy 32 = .ok (.aload_n 1, 1) := by decide +kernel
theorem dX4_copy_33 : decode cX4_copy 33 = .ok (.getfield 9, 3) := by decide +kernel
theorem dX4_copy_36 : decode cX4_copy 36 = .ok (.iconst 0, 1) := by decide +kernel
theorem dX4_copy_37 : decode cX4_copy 37 = .ok (.aload_n 0, 1) := by decide +kernel
theorem dX4_copy_38 : decode cX4_copy 38 = .ok (.getfield 9, 3) := by decide +kernel
theorem dX4_copy_41 : decode cX4_copy 41 = .ok (.iconst 0, 1) := by decide +kernel
theorem dX4_copy_42 : decode cX4_copy 42 = .ok (.aload_n 0, 1) := by decide +kernel
theorem dX4_copy_43 : decode cX4_copy 43 = .ok (.getfield 9, 3) := by decide +kernel
theorem dX4_copy_46 : decode cX4_copy 46 = .ok (.arraylength, 1) := by decide +kernel
theorem dX4_copy_47 : decode cX4_copy 47 = .ok (.invokestatic 39, 3) := by decide +kernel
theorem dX4_copy_50 : decode cX4_copy 50 = .ok (.aload_n 1, 1) := by decide +kernel
theorem dX4_copy_51 : decode cX4_copy 51 = .ok (.getfield 15, 3) := by decide +kernel
theorem dX4_copy_54 : decode cX4_copy 54 = .ok (.iconst 0, 1) := by decide +kernel
theorem dX4_copy_55 : decode cX4_copy 55 = .ok (.aload_n 0, 1) := by decide +kernel
theorem dX4_copy_56 : decode cX4_copy 56 = .ok (.getfield 15, 3) := by decide +kernel
theorem dX4_copy_59 : decode cX4_copy 59 = .ok (.iconst 0, 1) := by decide +kernel
theorem dX4_copy_60 : decode cX4_copy 60 = .ok (.aload_n 0, 1) := by decide +kernel
theorem dX4_copy_61 : decode cX4_copy 61 = .ok (.getfield 15, 3) := by decide +kernel
theorem dX4_copy_64 : decode cX4_copy 64 = .ok (.arraylength, 1) := by decide +kernel
theorem dX4_copy_65 : decode cX4_copy 65 = .ok (.invokestatic 39, 3) := by decide +kernel
theorem dX4_copy_68 : decode cX4_copy 68 = .ok (.aload_n 1, 1) := by decide +kernel
theorem dX4_copy_69 : decode cX4_copy 69 = .ok (.getfield 18, 3) := by decide +kernel
theorem dX4_copy_72 : decode cX4_copy 72 = .ok (.iconst 0, 1) := by decide +kernel
theorem dX4_copy_73 : decode cX4_copy 73 = .ok (.aload_n 0, 1) := by decide +kernel
theorem dX4_copy_74 : decode cX4_copy 74 = .ok (.getfield 18, 3) := by decide +kernel
theorem dX4_copy_77 : decode cX4_copy 77 = .ok (.iconst 0, 1) := by decide +kernel
theorem dX4_copy_78 : decode cX4_copy 78 = .ok (.aload_n 0, 1) := by decide +kernel
theorem dX4_copy_79 : decode cX4_copy 79 = .ok (.getfield 18, 3) := by decide +kernel
theorem dX4_copy_82 : decode cX4_copy 82 = .ok (.arraylength, 1) := by decide +kernel
theorem dX4_copy_83 : decode cX4_copy 83 = .ok (.invokestatic 39, 3) := by decide +kernel
theorem dX4_copy_86 : decode cX4_copy 86 = .ok (.return_, 1) := by decide +kernel
theorem dX4_add_0 : decode cX4_add 0 = .ok (.aload_n 0, 1) := by decide +kernel
theorem dX4_add_1 : decode cX4_add 1 = .ok (.getfield 25, 3) := by decide +kernel
theorem dX4_add_4 : decode cX4_add 4 = .ok (.bipush 10, 2) := by decide +kernel
theorem dX4_add_6 : decode cX4_add 6 = .ok (.if_icmp .ge 55, 3) := by decide +kernel
theorem dX4_add_9 : decode cX4_add 9 = .ok (.aload_n 0, 1) := by decide +kernel
theorem dX4_add_10 : decode cX4_add 10 = .ok (.getfield 9, 3) := by decide +kernel
theorem dX4_add_13 : decode cX4_add 13 = .ok (.aload_n 0, 1) := by decide +kernel
theorem dX4_add_14 : decode cX4_add 14 = .ok (.getfield 25, 3) := by decide +kernel
theorem dX4_add_17 : decode cX4_add 17 = .ok (.iload_n 1, 1) := by decide +kernel
theorem dX4_add_18 : decode cX4_add 18 = .ok (.iastore, 1) := by decide +kernel
theorem dX4_add_19 : decode cX4_add 19 = .ok (.aload_n 0, 1) := by decide +kernel
theorem dX4_add_20 : decode cX4_add 20 = .ok (.getfield 15, 3) := by decide +kernel
theorem dX4_add_23 : decode cX4_add 23 = .ok (.aload_n 0, 1) := by decide +kernel
theorem dX4_add_24 : decode cX4_add 24 = .ok (.getfield 25, 3) := by decide +kernel
theorem dX4_add_27 : decode cX4_add 27 = .ok (.iload_n 2, 1) := by decide +kernel
theorem dX4_add_28 : decode cX4_add 28 = .ok (.iastore, 1) := by decide +kernel
theorem dX4_add_29 : decode cX4_add 29 = .ok (.aload_n 0, 1) := by decide +kernel
theorem dX4_add_30 : decode cX4_add 30 = .ok (.getfield 18, 3) := by decide +kernel
theorem dX4_add_33 : decode cX4_add 33 = .ok (.aload_n 0, 1) := by decide +kernel
theorem dX4_add_34 : decode cX4_add 34 = .ok (.getfield 25, 3) := by decide +kernel
theorem dX4_add_37 : decode cX4_add 37 = .ok (.bipush 9, 2) := by decide +kernel
theorem dX4_add_39 : decode cX4_add 39 = .ok (.iastore, 1) := by decide +kernel
theorem dX4_add_40 : decode cX4_add 40 = .ok (.aload_n 0, 1) := by decide +kernel
theorem dX4_add_41 : decode cX4_add 41 = .ok (.dup, 1) := by decide +kernel
theorem dX4_add_42 : decode cX4_add 42 = .ok (.getfield 25, 3) := by decide +kernel
theorem dX4_add_45 : decode cX4_add 45 = .ok (.iconst 1, 1) := by decide +kernel
theorem dX4_add_46 : decode cX4_add 46 = .ok (.iadd, 1) := by decide +kernel
theorem dX4_add_47 : decode cX4_add 47 = .ok (.putfield 25, 3) := by decide +kernel
theorem dX4_add_50 : decode cX4_add 50 = .ok (.aload_n 0, 1) := by decide +kernel
theorem dX4_add_51 : decode cX4_add 51 = .ok (.aload_n 0, 1) := by decide +kernel
theorem dX4_add_52 : decode cX4_add 52 = .ok (.getfield 25, 3) := by decide +kernel
theorem dX4_add_55 : decode cX4_add 55 = .ok (.invokestatic 45, 3) := by decide +kernel
theorem dX4_add_58 : decode cX4_add 58 = .ok (.putfield 29, 3) := by decide +kernel
theorem dX4_add_61 : decode cX4_add 61 = .ok (.return_, 1) := by decide +kernel
theorem dX4_numberOf_0 : decode cX4_numberOf 0 = .ok (.iconst 0, 1) := by decide +kernel
theorem dX4_numberOf_1 : decode cX4_numberOf 1 = .ok (.istore_n 2, 1) := by decide +kernel
theorem dX4_numberOf_2 : decode cX4_numberOf 2 = .ok (.iload_n 2, 1) := by decide +kernel
theorem dX4_numberOf_3 : decode cX4_numberOf 3 = .ok (.aload_n 0, 1) := by decide +kernel
theorem dX4_numberOf_4 : decode cX4_numberOf 4 = .ok (.getfield 25, 3) := by decide +kernel
theorem dX4_numberOf_7 : decode cX4_numberOf 7 = .ok (.if_icmp .ge 21, 3) := by decide +kernel
theorem dX4_numberOf_10 : decode cX4_numberOf 10 = .ok (.aload_n 0, 1) := by decide +kernel
theorem dX4_numberOf_11 : decode cX4_numberOf 11 = .ok (.getfield 9, 3) := by decide +kernel
theorem dX4_numberOf_14 : decode cX4_numberOf 14 = .ok (.iload_n 2, 1) := by decide +kernel
theorem dX4_numberOf_15 : decode cX4_numberOf 15 = .ok (.iaload, 1) := by decide +kernel
theorem dX4_numberOf_16 : decode cX4_numberOf 16 = .ok (.iload_n 1, 1) := by decide +kernel
theorem dX4_numberOf_17 : decode cX4_numberOf 17 = .ok (.if_icmp .ne 5, 3) := by decide +kernel
theorem dX4_numberOf_20 : decode cX4_numberOf 20 = .ok (.iload_n 2, 1) := by decide +kernel
theorem dX4_numberOf_21 : decode cX4_numberOf 21 = .ok (.ireturn, 1) := by decide +kernel
theorem dX4_numberOf_22 : decode cX4_numberOf 22 = .ok (.iinc 2 1, 3) := by decide +kernel
theorem dX4_numberOf_25 : decode cX4_numberOf 25 = .ok (.goto (-23), 3) := by decide +kernel
theorem dX4_numberOf_28 : decode cX4_numberOf 28 = .ok (.iconst (-1), 1) := by decide +kernel
theorem dX4_numberOf_29 : decode cX4_numberOf 29 = .ok (.ireturn, 1) := by decide +kernel
theorem dX4_isPerson_0 : decode cX4_isPerson 0 = .ok (.iload_n 1, 1) := by decide +kernel
theorem dX4_isPerson_1 : decode cX4_isPerson 1 = .ok (.ifCond .lt 15, 3) := by decide +kernel
theorem dX4_isPerson_4 : decode cX4_isPerson 4 = .ok (.iload_n 1, 1) := by decide +kernel
theorem dX4_isPerson_5 : decode cX4_isPerson 5 = .ok (.aload_n 0, 1) := by decide +kernel
theorem dX4_isPerson_6 : decode cX4_isPerson 6 = .ok (.getfield 25, 3) := by decide +kernel
theorem dX4_isPerson_9 : decode cX4_isPerson 9 = .ok (.if_icmp .ge 7, 3) := by decide +kernel
theorem dX4_isPerson_12 : decode cX4_isPerson 12 = .ok (.iconst 1, 1) := by decide +kernel
theorem dX4_isPerson_13 : decode cX4_isPerson 13 = .ok (.goto 4, 3) := by decide +kernel
theorem dX4_isPerson_16 : decode cX4_isPerson 16 = .ok (.iconst 0, 1) := by decide +kernel
theorem dX4_isPerson_17 : decode cX4_isPerson 17 = .ok (.ireturn, 1) := by decide +kernel
theorem dX4_isNet_0 : decode cX4_isNet 0 = .ok (.lload_n 1, 1) := by decide +kernel
theorem dX4_isNet_1 : decode cX4_isNet 1 = .ok (.lconst 0, 1) := by decide +kernel
theorem dX4_isNet_2 : decode cX4_isNet 2 = .ok (.lcmp, 1) := by decide +kernel
theorem dX4_isNet_3 : decode cX4_isNet 3 = .ok (.ifCond .lt 18, 3) := by decide +kernel
theorem dX4_isNet_6 : decode cX4_isNet 6 = .ok (.lload_n 1, 1) := by decide +kernel
theorem dX4_isNet_7 : decode cX4_isNet 7 = .ok (.lconst 1, 1) := by decide +kernel
theorem dX4_isNet_8 : decode cX4_isNet 8 = .ok (.aload_n 0, 1) := by decide +kernel
theorem dX4_isNet_9 : decode cX4_isNet 9 = .ok (.getfield 29, 3) := by decide +kernel
theorem dX4_isNet_12 : decode cX4_isNet 12 = .ok (.lshl, 1) := by decide +kernel
theorem dX4_isNet_13 : decode cX4_isNet 13 = .ok (.lcmp, 1) := by decide +kernel
theorem dX4_isNet_14 : decode cX4_isNet 14 = .ok (.ifCond .ge 7, 3) := by decide +kernel
theorem dX4_isNet_17 : decode cX4_isNet 17 = .ok (.iconst 1, 1) := by decide +kernel
theorem dX4_isNet_18 : decode cX4_isNet 18 = .ok (.goto 4, 3) := by decide +kernel
theorem dX4_isNet_21 : decode cX4_isNet 21 = .ok (.iconst 0, 1) := by decide +kernel
theorem dX4_isNet_22 : decode cX4_isNet 22 = .ok (.ireturn, 1) := by decide +kernel
theorem dX4_may_0 : decode cX4_may 0 = .ok (.lload_n 1, 1) := by decide +kernel
theorem dX4_may_1 : decode cX4_may 1 = .ok (.aload_n 0, 1) := by decide +kernel
theorem dX4_may_2 : decode cX4_may 2 = .ok (.getfield 35, 3) := by decide +kernel
theorem dX4_may_5 : decode cX4_may 5 = .ok (.land, 1) := by decide +kernel
theorem dX4_may_6 : decode cX4_may 6 = .ok (.lconst 0, 1) := by decide +kernel
theorem dX4_may_7 : decode cX4_may 7 = .ok (.lcmp, 1) := by decide +kernel
theorem dX4_may_8 : decode cX4_may 8 = .ok (.ifCond .eq 5, 3) := by decide +kernel
theorem dX4_may_11 : decode cX4_may 11 = .ok (.iconst 0, 1) := by decide +kernel
theorem dX4_may_12 : decode cX4_may 12 = .ok (.ireturn, 1) := by decide +kernel
theorem dX4_may_13 : decode cX4_may 13 = .ok (.iconst 0, 1) := by decide +kernel
theorem dX4_may_14 : decode cX4_may 14 = .ok (.istore_n 3, 1) := by decide +kernel
theorem dX4_may_15 : decode cX4_may 15 = .ok (.iload_n 3, 1) := by decide +kernel
theorem dX4_may_16 : decode cX4_may 16 = .ok (.aload_n 0, 1) := by decide +kernel
theorem dX4_may_17 : decode cX4_may 17 = .ok (.getfield 25, 3) := by decide +kernel
theorem dX4_may_20 : decode cX4_may 20 = .ok (.if_icmp .ge 34, 3) := by decide +kernel
theorem dX4_may_23 : decode cX4_may 23 = .ok (.lload_n 1, 1) := by decide +kernel
theorem dX4_may_24 : decode cX4_may 24 = .ok (.aload_n 0, 1) := by decide +kernel
theorem dX4_may_25 : decode cX4_may 25 = .ok (.getfield 21, 3) := by decide +kernel
theorem dX4_may_28 : decode cX4_may 28 = .ok (.getfield 51, 3) := by decide +kernel
theorem dX4_may_31 : decode cX4_may 31 = .ok (.iload_n 3, 1) := by decide +kernel
theorem dX4_may_32 : decode cX4_may 32 = .ok (.laload, 1) := by decide +kernel
theorem dX4_may_33 : decode cX4_may 33 = .ok (.land, 1) := by decide +kernel
theorem dX4_may_34 : decode cX4_may 34 = .ok (.invokestatic 55, 3) := by decide +kernel
theorem dX4_may_37 : decode cX4_may 37 = .ok (.aload_n 0, 1) := by decide +kernel
theorem dX4_may_38 : decode cX4_may 38 = .ok (.getfield 18, 3) := by decide +kernel
theorem dX4_may_41 : decode cX4_may 41 = .ok (.iload_n 3, 1) := by decide +kernel
theorem dX4_may_42 : decode cX4_may 42 = .ok (.iaload, 1) := by decide +kernel
theorem dX4_may_43 : decode cX4_may 43 = .ok (.if_icmp .le 5, 3) := by decide +kernel
theorem dX4_may_46 : decode cX4_may 46 = .ok (.iconst 0, 1) := by decide +kernel
theorem dX4_may_47 : decode cX4_may 47 = .ok (.ireturn, 1) := by decide +kernel
theorem dX4_may_48 : decode cX4_may 48 = .ok (.iinc 3 1, 3) := by decide +kernel
theorem dX4_may_51 : decode cX4_may 51 = .ok (.goto (-36), 3) := by decide +kernel
theorem dX4_may_54 : decode cX4_may 54 = .ok (.iconst 1, 1) := by decide +kernel
theorem dX4_may_55 : decode cX4_may 55 = .ok (.ireturn, 1) := by decide +kernel
theorem dX5_init_0 : decode cX5_init 0 = .ok (.aload_n 0, 1) := by decide +kernel
theorem dX5_init_1 : decode cX5_init 1 = .ok (.invokespecial 3, 3) := by decide +kernel
theorem dX5_init_4 : decode cX5_init 4 = .ok (.aload_n 0, 1) := by decide +kernel
theorem dX5_init_5 : decode cX5_init 5 = .ok (.bipush 19, 2) := by decide +kernel
theorem dX5_init_7 : decode cX5_init 7 = .ok (.newarray .int, 2) := by decide +kernel
theorem dX5_init_9 : decode cX5_init 9 = .ok (.putfield 11, 3) := by decide +kernel
theorem dX5_init_12 : decode cX5_init 12 = .ok (.aload_n 0, 1) := by decide +kernel
theorem dX5_init_13 : decode cX5_init 13 = .ok (.iconst (-1), 1) := by decide +kernel
theorem dX5_init_14 : decode cX5_init 14 = .ok (.putfield 15, 3) := by decide +kernel
theorem dX5_init_17 : decode cX5_init 17 = .ok (.aload_n 0, 1) := by decide +kernel
theorem dX5_init_18 : decode cX5_init 18 = .ok (.new 19, 3) := by decide +kernel
theorem dX5_init_21 : decode cX5_init 21 = .ok (.dup, 1) := by decide +kernel
theorem dX5_init_22 : decode cX5_init 22 = .ok (.aload_n 1, 1) := by decide +kernel
theorem dX5_init_23 : decode cX5_init 23 = .ok (.invokespecial 21, 3) := by decide +kernel
theorem dX5_init_26 : decode cX5_init 26 = .ok (.putfield 24, 3) := by decide +kernel
theorem dX5_init_29 : decode cX5_init 29 = .ok (.aload_n 0, 1) := by decide +kernel
theorem dX5_init_30 : decode cX5_init 30 = .ok (.aload_n 2, 1) := by decide +kernel
theorem dX5_init_31 : decode cX5_init 31 = .ok (.putfield 28, 3) := by decide +kernel
theorem dX5_init_34 : decode cX5_init 34 = .ok (.aload_n 0, 1) := by decide +kernel
theorem dX5_init_35 : decode cX5_init 35 = .ok (.aload_n 3, 1) := by decide +kernel
theorem dX5_init_36 : decode cX5_init 36 = .ok (.putfield 32, 3) := by decide +kernel
theorem dX5_init_39 : decode cX5_init 39 = .ok (.iconst 0, 1) := by decide +kernel
theorem dX5_init_40 : decode cX5_init 40 = .ok (.istore 4, 2) := by decide +kernel
theorem dX5_init_42 : decode cX5_init 42 = .ok (.bipush 30, 2) := by decide +kernel
theorem dX5_init_44 : decode cX5_init 44 = .ok (.istore 5, 2) := by decide +kernel
theorem dX5_init_46 : decode cX5_init 46 = .ok (.iconst 0, 1) := by decide +kernel
theorem dX5_init_47 : decode cX5_init 47 = .ok (.istore 6, 2) := by decide +kernel
theorem dX5_init_49 : decode cX5_init 49 = .ok (.iload 6, 2) := by decide +kernel
theorem dX5_init_51 : decode cX5_init 51 = .ok (.ldc 36, 2) := by decide +kernel
theorem dX5_init_53 : decode cX5_init 53 = .ok (.invokevirtual 38, 3) := by decide +kernel
theorem dX5_init_56 : decode cX5_init 56 = .ok (.if_icmp .ge 68, 3) := by decide +kernel
theorem dX5_init_59 : decode cX5_init 59 = .ok (.iload 4, 2) := by decide +kernel
theorem dX5_init_61 : decode cX5_init 61 = .ok (.aload_n 0, 1) := by decide +kernel
theorem dX5_init_62 : decode cX5_init 62 = .ok (.getfield 11, 3) := by decide +kernel
theorem dX5_init_65 : decode cX5_init 65 = .ok (.arraylength, 1) := by decide +kernel
theorem dX5_init_66 : decode cX5_init 66 = .ok (.if_icmp .ge 58, 3) := by decide +kernel
theorem dX5_init_69 : decode cX5_init 69 = .ok (.ldc 36, 2) := by decide +kernel
theorem dX5_init_71 : decode cX5_init 71 = .ok (.iload 6, 2) := by decide +kernel
theorem dX5_init_73 : decode cX5_init 73 = .ok (.invokevirtual 44, 3) := by decide +kernel
theorem dX5_init_76 : decode cX5_init 76 = .ok (.istore 7, 2) := by decide +kernel
theorem dX5_init_78 : decode cX5_init 78 = .ok (.iload 7, 2) := by decide +kernel
theorem dX5_init_80 : decode cX5_init 80 = .ok (.bipush 32, 2) := by decide +kernel
theorem dX5_init_82 : decode cX5_init 82 = .ok (.if_icmp .ne 13, 3) := by decide +kernel
theorem dX5_init_85 : decode cX5_init 85 = .ok (.iinc 4 1, 3) := by decide +kernel
theorem dX5_init_88 : decode cX5_init 88 = .ok (.bipush 30, 2) := by decide +kernel
theorem dX5_init_90 : decode cX5_init 90 = .ok (.istore 5, 2) := by decide +kernel
theorem dX5_init_92 : decode cX5_init 92 = .ok (.goto 26, 3) := by decide +kernel
theorem dX5_init_95 : decode cX5_init 95 = .ok (.iinc 5 (-5), 3) := by decide +kernel
theorem dX5_init_98 : decode cX5_init 98 = .ok (.aload_n 0, 1) := by decide +kernel
theorem dX5_init_99 : decode cX5_init 99 = .ok (.getfield 11, 3) := by decide +kernel
theorem dX5_init_102 : decode cX5_init 102 = .ok (.iload 4, 2) := by decide +kernel
theorem dX5_init_104 : decode cX5_init 104 = .ok (.dup2, 1) := by decide +kernel
theorem dX5_init_105 : decode cX5_init 105 = .ok (.iaload, 1) := by decide +kernel
theorem dX5_init_106 : decode cX5_init 106 = .ok (.iload 7, 2) := by decide +kernel
theorem dX5_init_108 : decode cX5_init 108 = .ok (.bipush 97, 2) := by decide +kernel
theorem dX5_init_110 : decode cX5_init 110 = .ok (.isub, 1) := by decide +kernel
theorem dX5_init_111 : decode cX5_init 111 = .ok (.iconst 1, 1) := by decide +kernel
theorem dX5_init_112 : decode cX5_init 112 = .ok (.iadd, 1) := by decide +kernel
theorem dX5_init_113 : decode cX5_init 113 = .ok (.iload 5, 2) := by decide +kernel
theorem dX5_init_115 : decode cX5_init 115 = .ok (.ishl, 1) := by decide +kernel
theorem dX5_init_116 : decode cX5_init 116 = .ok (.ior, 1) := by decide +kernel
theorem dX5_init_117 : decode cX5_init 117 = .ok (.iastore, 1) := by decide +kernel
theorem dX5_init_118 : decode cX5_init 118 = .ok (.iinc 6 1, 3) := by decide +kernel
theorem dX5_init_121 : decode cX5_init 121 = .ok (.goto (-72), 3) := by decide +kernel
theorem dX5_init_124 : decode cX5_init 124 = .ok (.return_, 1) := by decide +kernel
theorem dX5_read_0 : decode cX5_read 0 = .ok (.aload_n 0, 1) := by decide +kernel
theorem dX5_read_1 : decode cX5_read 1 = .ok (.getfield 28, 3) := by decide +kernel
theorem dX5_read_4 : decode cX5_read 4 = .ok (.invokevirtual 48, 3) := by decide +kernel
theorem dX5_read_7 : decode cX5_read 7 = .ok (.aload_n 0, 1) := by decide +kernel
theorem dX5_read_8 : decode cX5_read 8 = .ok (.getfield 32, 3) := by decide +kernel
theorem dX5_read_11 : decode cX5_read 11 = .ok (.invokevirtual 53, 3) := by decide +kernel
theorem dX5_read_14 : decode cX5_read 14 = .ok (.aload_n 0, 1) := by decide +kernel
theorem dX5_read_15 : decode cX5_read 15 = .ok (.iconst 0, 1) := by decide +kernel
theorem dX5_read_16 : decode cX5_read 16 = .ok (.putfield 56, 3) := by decide +kernel
theorem dX5_read_19 : decode cX5_read 19 = .ok (.aload_n 0, 1) := by decide +kernel
theorem dX5_read_20 : decode cX5_read 20 = .ok (.iconst 0, 1) := by decide +kernel
theorem dX5_read_21 : decode cX5_read 21 = .ok (.putfield 59, 3) := by decide +kernel
theorem dX5_read_24 : decode cX5_read 24 = .ok (.aload_n 0, 1) := by decide +kernel
theorem dX5_read_25 : decode cX5_read 25 = .ok (.iconst (-1), 1) := by decide +kernel
theorem dX5_read_26 : decode cX5_read 26 = .ok (.putfield 15, 3) := by decide +kernel
theorem dX5_read_29 : decode cX5_read 29 = .ok (.aload_n 0, 1) := by decide +kernel
theorem dX5_read_30 : decode cX5_read 30 = .ok (.iconst 0, 1) := by decide +kernel
theorem dX5_read_31 : decode cX5_read 31 = .ok (.putfield 62, 3) := by decide +kernel
theorem dX5_read_34 : decode cX5_read 34 = .ok (.aload_n 0, 1) := by decide +kernel
theorem dX5_read_35 : decode cX5_read 35 = .ok (.getfield 24, 3) := by decide +kernel
theorem dX5_read_38 : decode cX5_read 38 = .ok (.invokevirtual 65, 3) := by decide +kernel
theorem dX5_read_41 : decode cX5_read 41 = .ok (.aload_n 0, 1) := by decide +kernel
theorem dX5_read_42 : decode cX5_read 42 = .ok (.iconst (-1), 1) := by decide +kernel
theorem dX5_read_43 : decode cX5_read 43 = .ok (.putfield 68, 3) := by decide +kernel
theorem dX5_read_46 : decode cX5_read 46 = .ok (.aload_n 0, 1) := by decide +kernel
theorem dX5_read_47 : decode cX5_read 47 = .ok (.invokevirtual 71, 3) := by decide +kernel
theorem dX5_read_50 : decode cX5_read 50 = .ok (.pop, 1) := by decide +kernel
theorem dX5_read_51 : decode cX5_read 51 = .ok (.iconst 1, 1) := by decide +kernel
theorem dX5_read_52 : decode cX5_read 52 = .ok (.istore_n 1, 1) := by decide +kernel
theorem dX5_read_53 : decode cX5_read 53 = .ok (.iconst 0, 1) := by decide +kernel
theorem dX5_read_54 : decode cX5_read 54 = .ok (.istore_n 2, 1) := by decide +kernel
theorem dX5_read_55 : decode cX5_read 55 = .ok (.iload_n 2, 1) := by decide +kernel
theorem dX5_read_56 : decode cX5_read 56 = .ok (.sipush 800, 3) := by decide +kernel
theorem dX5_read_59 : decode cX5_read 59 = .ok (.if_icmp .ge 148, 3) := by decide +kernel
theorem dX5_read_62 : decode cX5_read 62 = .ok (.iload_n 1, 1) := by decide +kernel
theorem dX5_read_63 : decode cX5_read 63 = .ok (.ifCond .eq 144, 3) := by decide +kernel
theorem dX5_read_66 : decode cX5_read 66 = .ok (.aload_n 0, 1) := by decide +kernel
theorem dX5_read_67 : decode cX5_read 67 = .ok (.getfield 75, 3) := by decide +kernel
theorem dX5_read_70 : decode cX5_read 70 = .ok (.ifCond .eq 137, 3) := by decide +kernel
theorem dX5_read_73 : decode cX5_read 73 = .ok (.aload_n 0, 1) := by decide +kernel
theorem dX5_read_74 : decode cX5_read 74 = .ok (.getfield 78, 3) := by decide +kernel
theorem dX5_read_77 : decode cX5_read 77 = .ok (.tableswitch 85 0 6 #[43, 85, 51, 85, 60, 69, 77], 43) := by decide +kernel
theorem dX5_read_120 : decode cX5_read 120 = .ok (.aload_n 0, 1) := by decide +kernel
theorem dX5_read_121 : decode cX5_read 121 = .ok (.invokevirtual 81, 3) := by decide +kernel
theorem dX5_read_124 : decode cX5_read 124 = .ok (.istore_n 1, 1) := by decide +kernel
theorem dX5_read_125 : decode cX5_read 125 = .ok (.goto 47, 3) := by decide +kernel
theorem dX5_read_128 : decode cX5_read 128 = .ok (.aload_n 0, 1) := by decide +kernel
theorem dX5_read_129 : decode cX5_read 129 = .ok (.iconst 0, 1) := by decide +kernel
theorem dX5_read_130 : decode cX5_read 130 = .ok (.invokevirtual 84, 3) := by decide +kernel
theorem dX5_read_133 : decode cX5_read 133 = .ok (.istore_n 1, 1) := by decide +kernel
theorem dX5_read_134 : decode cX5_read 134 = .ok (.goto 38, 3) := by decide +kernel
theorem dX5_read_137 : decode cX5_read 137 = .ok (.aload_n 0, 1) := by decide +kernel
theorem dX5_read_138 : decode cX5_read 138 = .ok (.iconst 1, 1) := by decide +kernel
theorem dX5_read_139 : decode cX5_read 139 = .ok (.invokevirtual 84, 3) := by decide +kernel
theorem dX5_read_142 : decode cX5_read 142 = .ok (.istore_n 1, 1) := by decide +kernel
theorem dX5_read_143 : decode cX5_read 143 = .ok (.goto 29, 3) := by decide +kernel
theorem dX5_read_146 : decode cX5_read 146 = .ok (.aload_n 0, 1) := by decide +kernel
theorem dX5_read_147 : decode cX5_read 147 = .ok (.invokevirtual 88, 3) := by decide +kernel
theorem dX5_read_150 : decode cX5_read 150 = .ok (.istore_n 1, 1) := by decide +kernel
theorem dX5_read_151 : decode cX5_read 151 = .ok (.goto 21, 3) := by decide +kernel
theorem dX5_read_154 : decode cX5_read 154 = .ok (.aload_n 0, 1) := by decide +kernel
theorem dX5_read_155 : decode cX5_read 155 = .ok (.invokevirtual 91, 3) := by decide +kernel
theorem dX5_read_158 : decode cX5_read 158 = .ok (.istore_n 1, 1) := by decide +kernel
theorem dX5_read_159 : decode cX5_read 159 = .ok (.goto 13, 3) := by decide +kernel
theorem dX5_read_162 : decode cX5_read 162 = .ok (.aload_n 0, 1) := by decide +kernel
theorem dX5_read_163 : decode cX5_read 163 = .ok (.iconst 1, 1) := by decide +kernel
theorem dX5_read_164 : decode cX5_read 164 = .ok (.aload_n 0, 1) := by decide +kernel
theorem dX5_read_165 : decode cX5_read 165 = .ok (.getfield 94, 3) := by decide +kernel
theorem dX5_read_168 : decode cX5_read 168 = .ok (.invokevirtual 97, 3) := by decide +kernel
theorem dX5_read_171 : decode cX5_read 171 = .ok (.istore_n 1, 1) := by decide +kernel
theorem dX5_read_172 : decode cX5_read 172 = .ok (.iload_n 1, 1) := by decide +kernel
theorem dX5_read_173 : decode cX5_read 173 = .ok (.ifCond .eq 16, 3) := by decide +kernel
theorem dX5_read_176 : decode cX5_read 176 = .ok (.aload_n 0, 1) := by decide +kernel
theorem dX5_read_177 : decode cX5_read 177 = .ok (.bipush 59, 2) := by decide +kernel
theorem dX5_read_179 : decode cX5_read 179 = .ok (.invokevirtual 101, 3) := by decide +kernel
theorem dX5_read_182 : decode cX5_read 182 = .ok (.ifCond .eq 7, 3) := by decide +kernel
theorem dX5_read_185 : decode cX5_read 185 = .ok (.iconst 1, 1) := by decide +kernel
theorem dX5_read_186 : decode cX5_read 186 = .ok (.goto 4, 3) := by decide +kernel
theorem dX5_read_189 : decode cX5_read 189 = .ok (.iconst 0, 1) := by decide +kernel
theorem dX5_read_190 : decode cX5_read 190 = .ok (.istore_n 1, 1) := by decide +kernel
theorem dX5_read_191 : decode cX5_read 191 = .ok (.aload_n 0, 1) := by decide +kernel
theorem dX5_read_192 : decode cX5_read 192 = .ok (.dup, 1) := by decide +kernel
theorem dX5_read_193 : decode cX5_read 193 = .ok (.getfield 56, 3) := by decide +kernel
theorem dX5_read_196 : decode cX5_read 196 = .ok (.iconst 1, 1) := by decide +kernel
theorem dX5_read_197 : decode cX5_read 197 = .ok (.iadd, 1) := by decide +kernel
theorem dX5_read_198 : decode cX5_read 198 = .ok (.putfield 56, 3) := by decide +kernel
theorem dX5_read_201 : decode cX5_read 201 = .ok (.iinc 2 1, 3) := by decide +kernel
theorem dX5_read_204 : decode cX5_read 204 = .ok (.goto (-149), 3) := by decide +kernel
theorem dX5_read_207 : decode cX5_read 207 = .ok (.iload_n 1, 1) := by decide +kernel
theorem dX5_read_208 : decode cX5_read 208 = .ok (.ireturn, 1) := by decide +kernel
theorem dX5_fail_0 : decode cX5_fail 0 = .ok (.aload_n 0, 1) := by decide +kernel
theorem dX5_fail_1 : decode cX5_fail 1 = .ok (.iload_n 1, 1) := by decide +kernel
theorem dX5_fail_2 : decode cX5_fail 2 = .ok (.putfield 59, 3) := by decide +kernel
theorem dX5_fail_5 : decode cX5_fail 5 = .ok (.aload_n 0, 1) := by decide +kernel
theorem dX5_fail_6 : decode cX5_fail 6 = .ok (.iload_n 2, 1) := by decide +kernel
theorem dX5_fail_7 : decode cX5_fail 7 = .ok (.putfield 15, 3) := by decide +kernel
theorem dX5_fail_10 : decode cX5_fail 10 = .ok (.iconst 0, 1) := by decide +kernel
theorem dX5_fail_11 : decode cX5_fail 11 = .ok (.ireturn, 1) := by decide +kernel
theorem dX5_take_0 : decode cX5_take 0 = .ok (.aload_n 0, 1) := by decide +kernel
theorem dX5_take_1 : decode cX5_take 1 = .ok (.getfield 68, 3) := by decide +kernel
theorem dX5_take_4 : decode cX5_take 4 = .ok (.iconst 1, 1) := by decide +kernel
theorem dX5_take_5 : decode cX5_take 5 = .ok (.iadd, 1) := by decide +kernel
theorem dX5_take_6 : decode cX5_take 6 = .ok (.aload_n 0, 1) := by decide +kernel
theorem dX5_take_7 : decode cX5_take 7 = .ok (.getfield 24, 3) := by decide +kernel
theorem dX5_take_10 : decode cX5_take 10 = .ok (.getfield 104, 3) := by decide +kernel
theorem dX5_take_13 : decode cX5_take 13 = .ok (.if_icmp .ge 13, 3) := by decide +kernel
theorem dX5_take_16 : decode cX5_take 16 = .ok (.aload_n 0, 1) := by decide +kernel
theorem dX5_take_17 : decode cX5_take 17 = .ok (.dup, 1) := by decide +kernel
theorem dX5_take_18 : decode cX5_take 18 = .ok (.getfield 68, 3) := by decide +kernel
theorem dX5_take_21 : decode cX5_take 21 = .ok (.iconst 1, 1) := by decide +kernel
theorem dX5_take_22 : decode cX5_take 22 = .ok (.iadd, 1) := by decide +kernel
theorem dX5_take_23 : decode cX5_take 23 = .ok (.putfield 68, 3) := by decide +kernel
theorem dX5_take_26 : decode cX5_take 26 = .ok (.aload_n 0, 1) := by decide +kernel
theorem dX5_take_27 : decode cX5_take 27 = .ok (.aload_n 0, 1) := by decide +kernel
theorem dX5_take_28 : decode cX5_take 28 = .ok (.getfield 24, 3) := by decide +kernel
theorem dX5_take_31 : decode cX5_take 31 = .ok (.getfield 107, 3) := by decide +kernel
theorem dX5_take_34 : decode cX5_take 34 = .ok (.aload_n 0, 1) := by decide +kernel
theorem dX5_take_35 : decode cX5_take 35 = .ok (.getfield 68, 3) := by decide +kernel
theorem dX5_take_38 : decode cX5_take 38 = .ok (.iaload, 1) := by decide +kernel
theorem dX5_take_39 : decode cX5_take 39 = .ok (.putfield 75, 3) := by decide +kernel
theorem dX5_take_42 : decode cX5_take 42 = .ok (.aload_n 0, 1) := by decide +kernel
theorem dX5_take_43 : decode cX5_take 43 = .ok (.aload_n 0, 1) := by decide +kernel
theorem dX5_take_44 : decode cX5_take 44 = .ok (.getfield 24, 3) := by decide +kernel
theorem dX5_take_47 : decode cX5_take 47 = .ok (.getfield 110, 3) := by decide +kernel
theorem dX5_take_50 : decode cX5_take 50 = .ok (.aload_n 0, 1) := by decide +kernel
theorem dX5_take_51 : decode cX5_take 51 = .ok (.getfield 68, 3) := by decide +kernel
theorem dX5_take_54 : decode cX5_take 54 = .ok (.iaload, 1) := by decide +kernel
theorem dX5_take_55 : decode cX5_take 55 = .ok (.putfield 94, 3) := by decide +kernel
theorem dX5_take_58 : decode cX5_take 58 = .ok (.aload_n 0, 1) := by decide +kernel
theorem dX5_take_59 : decode cX5_take 59 = .ok (.aload_n 0, 1) := by decide +kernel
theorem dX5_take_60 : decode cX5_take 60 = .ok (.getfield 24, 3) := by decide +kernel
theorem dX5_take_63 : decode cX5_take 63 = .ok (.getfield 113, 3) := by decide +kernel
theorem dX5_take_66 : decode cX5_take 66 = .ok (.aload_n 0, 1) := by decide +kernel
theorem dX5_take_67 : decode cX5_take 67 = .ok (.getfield 68, 3) := by decide +kernel
theorem dX5_take_70 : decode cX5_take 70 = .ok (.iaload, 1) := by decide +kernel
theorem dX5_take_71 : decode cX5_take 71 = .ok (.putfield 116, 3) := by decide +kernel
theorem dX5_take_74 : decode cX5_take 74 = .ok (.aload_n 0, 1) := by decide +kernel
theorem dX5_take_75 : decode cX5_take 75 = .ok (.aload_n 0, 1) := by decide +kernel
theorem dX5_take_76 : decode cX5_take 76 = .ok (.getfield 24, 3) := by decide +kernel
theorem dX5_take_79 : decode cX5_take 79 = .ok (.getfield 119, 3) := by decide +kernel
theorem dX5_take_82 : decode cX5_take 82 = .ok (.aload_n 0, 1) := by decide +kernel
theorem dX5_take_83 : decode cX5_take 83 = .ok (.getfield 68, 3) := by decide +kernel
theorem dX5_take_86 : decode cX5_take 86 = .ok (.iaload, 1) := by decide +kernel
theorem dX5_take_87 : decode cX5_take 87 = .ok (.putfield 122, 3) := by decide +kernel
theorem dX5_take_90 : decode cX5_take 90 = .ok (.aload_n 0, 1) := by decide +kernel
theorem dX5_take_91 : decode cX5_take 91 = .ok (.iconst (-1), 1) := by decide +kernel
theorem dX5_take_92 : decode cX5_take 92 = .ok (.putfield 78, 3) := by decide +kernel
theorem dX5_take_95 : decode cX5_take 95 = .ok (.iconst 0, 1) := by decide +kernel
theorem dX5_take_96 : decode cX5_take 96 = .ok (.istore_n 1, 1) := by decide +kernel
theorem dX5_take_97 : decode cX5_take 97 = .ok (.iload_n 1, 1) := by decide +kernel
theorem dX5_take_98 : decode cX5_take 98 = .ok (.aload_n 0, 1) := by decide +kernel
theorem dX5_take_99 : decode cX5_take 99 = .ok (.getfield 11, 3) := by decide +kernel
theorem dX5_take_102 : decode cX5_take 102 = .ok (.arraylength, 1) := by decide +kernel
theorem dX5_take_103 : decode cX5_take 103 = .ok (.if_icmp .ge 44, 3) := by decide +kernel
theorem dX5_take_106 : decode cX5_take 106 = .ok (.aload_n 0, 1) := by decide +kernel
theorem dX5_take_107 : decode cX5_take 107 = .ok (.getfield 75, 3) := by decide +kernel
theorem dX5_take_110 : decode cX5_take 110 = .ok (.iconst 1, 1) := by decide +kernel
theorem dX5_take_111 : decode cX5_take 111 = .ok (.if_icmp .ne 36, 3) := by decide +kernel
theorem dX5_take_114 : decode cX5_take 114 = .ok (.aload_n 0, 1) := by decide +kernel
theorem dX5_take_115 : decode cX5_take 115 = .ok (.getfield 116, 3) := by decide +kernel
theorem dX5_take_118 : decode cX5_take 118 = .ok (.bipush 6, 2) := by decide +kernel
theorem dX5_take_120 : decode cX5_take 120 = .ok (.if_icmp .gt 27, 3) := by decide +kernel
theorem dX5_take_123 : decode cX5_take 123 = .ok (.aload_n 0, 1) := by decide +kernel
theorem dX5_take_124 : decode cX5_take 124 = .ok (.getfield 11, 3) := by decide +kernel
theorem dX5_take_127 : decode cX5_take 127 = .ok (.iload_n 1, 1) := by decide +kernel
theorem dX5_take_128 : decode cX5_take 128 = .ok (.iaload, 1) := by decide +kernel
theorem dX5_take_129 : decode cX5_take 129 = .ok (.aload_n 0, 1) := by decide +kernel
theorem dX5_take_130 : decode cX5_take 130 = .ok (.getfield 122, 3) := by decide +kernel
theorem dX5_take_133 : decode cX5_take 133 = .ok (.if_icmp .ne 8, 3) := by decide +kernel
theorem dX5_take_136 : decode cX5_take 136 = .ok (.aload_n 0, 1) := by decide +kernel
theorem dX5_take_137 : decode cX5_take 137 = .ok (.iload_n 1, 1) := by decide +kernel
theorem dX5_take_138 : decode cX5_take 138 = .ok (.putfield 78, 3) := by decide +kernel
theorem dX5_take_141 : decode cX5_take 141 = .ok (.iinc 1 1, 3) := by decide +kernel
theorem dX5_take_144 : decode cX5_take 144 = .ok (.goto (-47), 3) := by decide +kernel
theorem dX5_take_147 : decode cX5_take 147 = .ok (.iconst 1, 1) := by decide +kernel
theorem dX5_take_148 : decode cX5_take 148 = .ok (.ireturn, 1) := by decide +kernel
theorem dX5_isSign_0 : decode cX5_isSign 0 = .ok (.aload_n 0, 1) := by decide +kernel
theorem dX5_isSign_1 : decode cX5_isSign 1 = .ok (.getfield 75, 3) := by decide +kernel
theorem dX5_isSign_4 : decode cX5_isSign 4 = .ok (.iconst 3, 1) := by decide +kernel
theorem dX5_isSign_5 : decode cX5_isSign 5 = .ok (.if_icmp .ne 15, 3) := by decide +kernel
theorem dX5_isSign_8 : decode cX5_isSign 8 = .ok (.aload_n 0, 1) := by decide +kernel
theorem dX5_isSign_9 : decode cX5_isSign 9 = .ok (.getfield 122, 3) := by decide +kernel
theorem dX5_isSign_12 : decode cX5_isSign 12 = .ok (.iload_n 1, 1) := by decide +kernel
theorem dX5_isSign_13 : decode cX5_isSign 13 = .ok (.if_icmp .ne 7, 3) := by decide +kernel
theorem dX5_isSign_16 : decode cX5_isSign 16 = .ok (.iconst 1, 1) := by decide +kernel
theorem dX5_isSign_17 : decode cX5_isSign 17 = .ok (.goto 4, 3) := by decide +kernel
theorem dX5_isSign_20 : decode cX5_isSign 20 = .ok (.iconst 0, 1) := by decide +kernel
theorem dX5_isSign_21 : decode cX5_isSign 21 = .ok (.ireturn, 1) := by decide +kernel
theorem dX5_takeSign_0 : decode cX5_takeSign 0 = .ok (.aload_n 0, 1) := by decide +kernel
theorem dX5_takeSign_1 : decode cX5_takeSign 1 = .ok (.iload_n 1, 1) := by decide +kernel
theorem dX5_takeSign_2 : decode cX5_takeSign 2 = .ok (.invokevirtual 125, 3) := by decide +kernel
theorem dX5_takeSign_5 : decode cX5_takeSign 5 = .ok (.ifCond .ne 13, 3) := by decide +kernel
theorem dX5_takeSign_8 : decode cX5_takeSign 8 = .ok (.aload_n 0, 1) := by decide +kernel
theorem dX5_takeSign_9 : decode cX5_takeSign 9 = .ok (.iconst 1, 1) := by decide +kernel
theorem dX5_takeSign_10 : decode cX5_takeSign 10 = .ok (.aload_n 0, 1) := by decide +kernel
theorem dX5_takeSign_11 : decode cX5_takeSign 11 = .ok (.getfield 94, 3) := by decide +kernel
theorem dX5_takeSign_14 : decode cX5_takeSign 14 = .ok (.invokevirtual 97, 3) := by decide +kernel
theorem dX5_takeSign_17 : decode cX5_takeSign 17 = .ok (.ireturn, 1) := by decide +kernel
theorem dX5_takeSign_18 : decode cX5_takeSign 18 = .ok (.iload_n 1, 1) := by decide +kernel
theorem dX5_takeSign_19 : decode cX5_takeSign 19 = .ok (.bipush 41, 2) := by decide +kernel
theorem dX5_takeSign_21 : decode cX5_takeSign 21 = .ok (.if_icmp .eq 9, 3) := by decide +kernel
theorem dX5_takeSign_24 : decode cX5_takeSign 24 = .ok (.iload_n 1, 1) := by decide +kernel
theorem dX5_takeSign_25 : decode cX5_takeSign 25 = .ok (.bipush 93, 2) := by decide +kernel
theorem dX5_takeSign_27 : decode cX5_takeSign 27 = .ok (.if_icmp .ne 13, 3) := by decide +kernel
theorem dX5_takeSign_30 : decode cX5_takeSign 30 = .ok (.aload_n 0, 1) := by decide +kernel
theorem dX5_takeSign_31 : decode cX5_takeSign 31 = .ok (.dup, 1) := by decide +kernel
theorem dX5_takeSign_32 : decode cX5_takeSign 32 = .ok (.getfield 62, 3) := by decide +kernel
theorem dX5_takeSign_35 : decode cX5_takeSign 35 = .ok (.iconst 1, 1) := by decide +kernel
theorem dX5_takeSign_36 : decode cX5_takeSign 36 = .ok (.isub, 1) := by decide +kernel
theorem dX5_takeSign_37 : decode cX5_takeSign 37 = .ok (.putfield 62, 3) := by decide +kernel
theorem dX5_takeSign_40 : decode cX5_takeSign 40 = .ok (.aload_n 0, 1) := by decide +kernel
theorem dX5_takeSign_41 : decode cX5_takeSign 41 = .ok (.invokevirtual 71, 3) := by decide +kernel
theorem dX5_takeSign_44 : decode cX5_takeSign 44 = .ok (.ireturn, 1) := by decide +kernel
theorem dX5_takeWord_0 : decode cX5_takeWord 0 = .ok (.aload_n 0, 1) := by decide +kernel
theorem dX5_takeWord_1 : decode cX5_takeWord 1 = .ok (.getfield 78, 3) := by decide +kernel
theorem dX5_takeWord_4 : decode cX5_takeWord 4 = .ok (.iload_n 1, 1) := by decide +kernel
theorem dX5_takeWord_5 : decode cX5_takeWord 5 = .ok (.if_icmp .ne 10, 3) := by decide +kernel
theorem dX5_takeWord_8 : decode cX5_takeWord 8 = .ok (.aload_n 0, 1) := by decide +kernel
theorem dX5_takeWord_9 : decode cX5_takeWord 9 = .ok (.invokevirtual 71, 3) := by decide +kernel
theorem dX5_takeWord_12 : decode cX5_takeWord 12 = .ok (.goto 12, 3) := by decide +kernel
theorem dX5_takeWord_15 : decode cX5_takeWord 15 = .ok (.aload_n 0, 1) := by decide +kernel
theorem dX5_takeWord_16 : decode cX5_takeWord 16 = .ok (.iconst 1, 1) := by decide +kernel
theorem dX5_takeWord_17 : decode cX5_takeWord 17 = .ok (.aload_n 0, 1) := by decide +kernel
theorem dX5_takeWord_18 : decode cX5_takeWord 18 = .ok (.getfield 94, 3) := by decide +kernel
theorem dX5_takeWord_21 : decode cX5_takeWord 21 = .ok (.invokevirtual 97, 3) := by decide +kernel
theorem dX5_takeWord_24 : decode cX5_takeWord 24 = .ok (.ireturn, 1) := by decide +kernel
theorem dX5_takeOpening_0 : decode cX5_takeOpening 0 = .ok (.aload_n 0, 1) := by decide +kernel
theorem dX5_takeOpening_1 : decode cX5_takeOpening 1 = .ok (.getfield 62, 3) := by decide +kernel
theorem dX5_takeOpening_4 : decode cX5_takeOpening 4 = .ok (.bipush 6, 2) := by decide +kernel
theorem dX5_takeOpening_6 : decode cX5_takeOpening 6 = .ok (.if_icmp .lt 13, 3) := by decide +kernel
theorem dX5_takeOpening_9 : decode cX5_takeOpening 9 = .ok (.aload_n 0, 1) := by decide +kernel
theorem dX5_takeOpening_10 : decode cX5_takeOpening 10 = .ok (.iconst 4, 1) := by decide +kernel
theorem dX5_takeOpening_11 : decode cX5_takeOpening 11 = .ok (.aload_n 0, 1) := by decide +kernel
theorem dX5_takeOpening_12 : decode cX5_takeOpening 12 = .ok (.getfield 94, 3) := by decide +kernel
theorem dX5_takeOpening_15 : decode cX5_takeOpening 15 = .ok (.invokevirtual 97, 3) := by decide +kernel
theorem dX5_takeOpening_18 : decode cX5_takeOpening 18 = .ok (.ireturn, 1) := by decide +kernel
theorem dX5_takeOpening_19 : decode cX5_takeOpening 19 = .ok (.aload_n 0, 1) := by decide +kernel
theorem dX5_takeOpening_20 : decode cX5_takeOpening 20 = .ok (.dup, 1) := by decide +kernel
theorem dX5_takeOpening_21 : decode cX5_takeOpening 21 = .ok (.getfield 62, 3) := by decide +kernel
theorem dX5_takeOpening_24 : decode cX5_takeOpening 24 = .ok (.iconst 1, 1) := by decide +kernel
theorem dX5_takeOpening_25 : decode cX5_takeOpening 25 = .ok (.iadd, 1) := by decide +kernel
theorem dX5_takeOpening_26 : decode cX5_takeOpening 26 = .ok (.putfield 62, 3) := by decide +kernel
theorem dX5_takeOpening_29 : decode cX5_takeOpening 29 = .ok (.aload_n 0, 1) := by decide +kernel
theorem dX5_takeOpening_30 : decode cX5_takeOpening 30 = .ok (.invokevirtual 71, 3) := by decide +kernel
theorem dX5_takeOpening_33 : decode cX5_takeOpening 33 = .ok (.ireturn, 1) := by decide +kernel
theorem dX5_seesNumber_0 : decode cX5_seesNumber 0 = .ok (.aload_n 0, 1) := by decide +kernel
theorem dX5_seesNumber_1 : decode cX5_seesNumber 1 = .ok (.getfield 75, 3) := by decide +kernel
theorem dX5_seesNumber_4 : decode cX5_seesNumber 4 = .ok (.iconst 2, 1) := by decide +kernel
theorem dX5_seesNumber_5 : decode cX5_seesNumber 5 = .ok (.if_icmp .eq 13, 3) := by decide +kernel
theorem dX5_seesNumber_8 : decode cX5_seesNumber 8 = .ok (.aload_n 0, 1) := by decide +kernel
theorem dX5_seesNumber_9 : decode cX5_seesNumber 9 = .ok (.iconst 1, 1) := by decide +kernel
theorem dX5_seesNumber_10 : decode cX5_seesNumber 10 = .ok (.aload_n 0, 1) := by decide +kernel
theorem dX5_seesNumber_11 : decode cX5_seesNumber 11 = .ok (.getfield 94, 3) := by decide +kernel
theorem dX5_seesNumber_14 : decode cX5_seesNumber 14 = .ok (.invokevirtual 97, 3) := by decide +kernel
theorem dX5_seesNumber_17 : decode cX5_seesNumber 17 = .ok (.ireturn, 1) := by decide +kernel
theorem dX5_seesNumber_18 : decode cX5_seesNumber 18 = .ok (.aload_n 0, 1) := by decide +kernel
theorem dX5_seesNumber_19 : decode cX5_seesNumber 19 = .ok (.getfield 116, 3) := by decide +kernel
theorem dX5_seesNumber_22 : decode cX5_seesNumber 22 = .ok (.iconst 4, 1) := by decide +kernel
theorem dX5_seesNumber_23 : decode cX5_seesNumber 23 = .ok (.if_icmp .le 15, 3) := by decide +kernel
theorem dX5_seesNumber_26 : decode cX5_seesNumber 26 = .ok (.aload_n 0, 1) := by decide +kernel
theorem dX5_seesNumber_27 : decode cX5_seesNumber 27 = .ok (.iconst 1, 1) := by decide +kernel
theorem dX5_seesNumber_28 : decode cX5_seesNumber 28 = .ok (.aload_n 0, 1) := by decide +kernel
theorem dX5_seesNumber_29 : decode cX5_seesNumber 29 = .ok (.getfield 94, 3) := by decide +kernel
theorem dX5_seesNumber_32 : decode cX5_seesNumber 32 = .ok (.iconst 4, 1) := by decide +kernel
theorem dX5_seesNumber_33 : decode cX5_seesNumber 33 = .ok (.iadd, 1) := by decide +kernel
theorem dX5_seesNumber_34 : decode cX5_seesNumber 34 = .ok (.invokevirtual 97, 3) := by decide +kernel
theorem dX5_seesNumber_37 : decode cX5_seesNumber 37 = .ok (.ireturn, 1) := by decide +kernel
theorem dX5_seesNumber_38 : decode cX5_seesNumber 38 = .ok (.aload_n 0, 1) := by decide +kernel
theorem dX5_seesNumber_39 : decode cX5_seesNumber 39 = .ok (.getfield 122, 3) := by decide +kernel
theorem dX5_seesNumber_42 : decode cX5_seesNumber 42 = .ok (.iload_n 1, 1) := by decide +kernel
theorem dX5_seesNumber_43 : decode cX5_seesNumber 43 = .ok (.if_icmp .le 15, 3) := by decide +kernel
theorem dX5_seesNumber_46 : decode cX5_seesNumber 46 = .ok (.aload_n 0, 1) := by decide +kernel
theorem dX5_seesNumber_47 : decode cX5_seesNumber 47 = .ok (.iconst 2, 1) := by decide +kernel
theorem dX5_seesNumber_48 : decode cX5_seesNumber 48 = .ok (.aload_n 0, 1) := by decide +kernel
theorem dX5_seesNumber_49 : decode cX5_seesNumber 49 = .ok (.getfield 94, 3) := by decide +kernel
theorem dX5_seesNumber_52 : decode cX5_seesNumber 52 = .ok (.invokevirtual 97, 3) := by decide +kernel
theorem dX5_seesNumber_55 : decode cX5_seesNumber 55 = .ok (.ifCond .eq 7, 3) := by decide +kernel
theorem dX5_seesNumber_58 : decode cX5_seesNumber 58 = .ok (.iconst 1, 1) := by decide +kernel
theorem dX5_seesNumber_59 : decode cX5_seesNumber 59 = .ok (.goto 4, 3) := by decide +kernel
theorem dX5_seesNumber_62 : decode cX5_seesNumber 62 = .ok (.iconst 0, 1) := by decide +kernel
theorem dX5_seesNumber_63 : decode cX5_seesNumber 63 = .ok (.ireturn, 1) := by decide +kernel
theorem dX5_seesName_0 : decode cX5_seesName 0 = .ok (.aload_n 0, 1) := by decide +kernel
theorem dX5_seesName_1 : decode cX5_seesName 1 = .ok (.getfield 75, 3) := by decide +kernel
theorem dX5_seesName_4 : decode cX5_seesName 4 = .ok (.iconst 1, 1) := by decide +kernel
theorem dX5_seesName_5 : decode cX5_seesName 5 = .ok (.if_icmp .ne 11, 3) := by decide +kernel
theorem dX5_seesName_8 : decode cX5_seesName 8 = .ok (.aload_n 0, 1) := by decide +kernel
theorem dX5_seesName_9 : decode cX5_seesName 9 = .ok (.getfield 78, 3) := by decide +kernel
theorem dX5_seesName_12 : decode cX5_seesName 12 = .ok (.iconst (-1), 1) := by decide +kernel
theorem dX5_seesName_13 : decode cX5_seesName 13 = .ok (.if_icmp .eq 13, 3) := by decide +kernel
theorem dX5_seesName_16 : decode cX5_seesName 16 = .ok (.aload_n 0, 1) := by decide +kernel
theorem dX5_seesName_17 : decode cX5_seesName 17 = .ok (.iconst 1, 1) := by decide +kernel
theorem dX5_seesName_18 : decode cX5_seesName 18 = .ok (.aload_n 0, 1) := by decide +kernel
theorem dX5_seesName_19 : decode cX5_seesName 19 = .ok (.getfield 94, 3) := by decide +kernel
theorem dX5_seesName_22 : decode cX5_seesName 22 = .ok (.invokevirtual 97, 3) := by decide +kernel
theorem dX5_seesName_25 : decode cX5_seesName 25 = .ok (.ireturn, 1) := by decide +kernel
theorem dX5_seesName_26 : decode cX5_seesName 26 = .ok (.aload_n 0, 1) := by decide +kernel
theorem dX5_seesName_27 : decode cX5_seesName 27 = .ok (.getfield 116, 3) := by decide +kernel
theorem dX5_seesName_30 : decode cX5_seesName 30 = .ok (.bipush 6, 2) := by decide +kernel
theorem dX5_seesName_32 : decode cX5_seesName 32 = .ok (.if_icmp .le 18, 3) := by decide +kernel
theorem dX5_seesName_35 : decode cX5_seesName 35 = .ok (.aload_n 0, 1) := by decide +kernel
theorem dX5_seesName_36 : decode cX5_seesName 36 = .ok (.iconst 1, 1) := by decide +kernel
theorem dX5_seesName_37 : decode cX5_seesName 37 = .ok (.aload_n 0, 1) := by decide +kernel
theorem dX5_seesName_38 : decode cX5_seesName 38 = .ok (.getfield 94, 3) := by decide +kernel
theorem dX5_seesName_41 : decode cX5_seesName 41 = .ok (.bipush 6, 2) := by decide +kernel
theorem dX5_seesName_43 : decode cX5_seesName 43 = .ok (.iadd, 1) := by decide +kernel
theorem dX5_seesName_44 : decode cX5_seesName 44 = .ok (.invokevirtual 97, 3) := by decide +kernel
theorem dX5_seesName_47 : decode cX5_seesName 47 = .ok (.ifCond .eq 7, 3) := by decide +kernel
theorem dX5_seesName_50 : decode cX5_seesName 50 = .ok (.iconst 1, 1) := by decide +kernel
theorem dX5_seesName_51 : decode cX5_seesName 51 = .ok (.goto 4, 3) := by decide +kernel
theorem dX5_seesName_54 : decode cX5_seesName 54 = .ok (.iconst 0, 1) := by decide +kernel
theorem dX5_seesName_55 : decode cX5_seesName 55 = .ok (.ireturn, 1) := by decide +kernel
theorem dX5_seesPerson_0 : decode cX5_seesPerson 0 = .ok (.aload_n 0, 1) := by decide +kernel
theorem dX5_seesPerson_1 : decode cX5_seesPerson 1 = .ok (.invokevirtual 128, 3) := by decide +kernel
theorem dX5_seesPerson_4 : decode cX5_seesPerson 4 = .ok (.ifCond .ne 5, 3) := by decide +kernel
theorem dX5_seesPerson_7 : decode cX5_seesPerson 7 = .ok (.iconst 0, 1) := by decide +kernel
theorem dX5_seesPerson_8 : decode cX5_seesPerson 8 = .ok (.ireturn, 1) := by decide +kernel
theorem dX5_seesPerson_9 : decode cX5_seesPerson 9 = .ok (.aload_n 0, 1) := by decide +kernel
theorem dX5_seesPerson_10 : decode cX5_seesPerson 10 = .ok (.getfield 28, 3) := by decide +kernel
theorem dX5_seesPerson_13 : decode cX5_seesPerson 13 = .ok (.aload_n 0, 1) := by decide +kernel
theorem dX5_seesPerson_14 : decode cX5_seesPerson 14 = .ok (.getfield 122, 3) := by decide +kernel
theorem dX5_seesPerson_17 : decode cX5_seesPerson 17 = .ok (.invokevirtual 131, 3) := by decide +kernel
theorem dX5_seesPerson_20 : decode cX5_seesPerson 20 = .ok (.istore_n 2, 1) := by decide +kernel
theorem dX5_seesPerson_21 : decode cX5_seesPerson 21 = .ok (.iload_n 2, 1) := by decide +kernel
theorem dX5_seesPerson_22 : decode cX5_seesPerson 22 = .ok (.iconst (-1), 1) := by decide +kernel
theorem dX5_seesPerson_23 : decode cX5_seesPerson 23 = .ok (.if_icmp .eq 8, 3) := by decide +kernel
theorem dX5_seesPerson_26 : decode cX5_seesPerson 26 = .ok (.iload_n 2, 1) := by decide +kernel
theorem dX5_seesPerson_27 : decode cX5_seesPerson 27 = .ok (.iload_n 1, 1) := by decide +kernel
theorem dX5_seesPerson_28 : decode cX5_seesPerson 28 = .ok (.if_icmp .ne 15, 3) := by decide +kernel
theorem dX5_seesPerson_31 : decode cX5_seesPerson 31 = .ok (.aload_n 0, 1) := by decide +kernel
theorem dX5_seesPerson_32 : decode cX5_seesPerson 32 = .ok (.iconst 3, 1) := by decide +kernel
theorem dX5_seesPerson_33 : decode cX5_seesPerson 33 = .ok (.aload_n 0, 1) := by decide +kernel
theorem dX5_seesPerson_34 : decode cX5_seesPerson 34 = .ok (.getfield 94, 3) := by decide +kernel
theorem dX5_seesPerson_37 : decode cX5_seesPerson 37 = .ok (.invokevirtual 97, 3) := by decide +kernel
theorem dX5_seesPerson_40 : decode cX5_seesPerson 40 = .ok (.ifCond .eq 7, 3) := by decide +kernel
theorem dX5_seesPerson_43 : decode cX5_seesPerson 43 = .ok (.iconst 1, 1) := by decide +kernel
theorem dX5_seesPerson_44 : decode cX5_seesPerson 44 = .ok (.goto 4, 3) := by decide +kernel
theorem dX5_seesPerson_47 : decode cX5_seesPerson 47 = .ok (.iconst 0, 1) := by decide +kernel
theorem dX5_seesPerson_48 : decode cX5_seesPerson 48 = .ok (.ireturn, 1) := by decide +kernel
theorem dX5_readWho_0 : decode cX5_readWho 0 = .ok (.aload_n 0, 1) := by decide +kernel
theorem dX5_readWho_1 : decode cX5_readWho 1 = .ok (.getfield 28, 3) := by decide +kernel
theorem dX5_readWho_4 : decode cX5_readWho 4 = .ok (.getfield 135, 3) := by decide +kernel
theorem dX5_readWho_7 : decode cX5_readWho 7 = .ok (.bipush 10, 2) := by decide +kernel
theorem dX5_readWho_9 : decode cX5_readWho 9 = .ok (.if_icmp .lt 13, 3) := by decide +kernel
theorem dX5_readWho_12 : decode cX5_readWho 12 = .ok (.aload_n 0, 1) := by decide +kernel
theorem dX5_readWho_13 : decode cX5_readWho 13 = .ok (.iconst 5, 1) := by decide +kernel
theorem dX5_readWho_14 : decode cX5_readWho 14 = .ok (.aload_n 0, 1) := by decide +kernel
theorem dX5_readWho_15 : decode cX5_readWho 15 = .ok (.getfield 94, 3) := by decide +kernel
theorem dX5_readWho_18 : decode cX5_readWho 18 = .ok (.invokevirtual 97, 3) := by decide +kernel
theorem dX5_readWho_21 : decode cX5_readWho 21 = .ok (.ireturn, 1) := by decide +kernel
theorem dX5_readWho_22 : decode cX5_readWho 22 = .ok (.aload_n 0, 1) := by decide +kernel
theorem dX5_readWho_23 : decode cX5_readWho 23 = .ok (.invokevirtual 71, 3) := by decide +kernel
theorem dX5_readWho_26 : decode cX5_readWho 26 = .ok (.pop, 1) := by decide +kernel
theorem dX5_readWho_27 : decode cX5_readWho 27 = .ok (.aload_n 0, 1) := by decide +kernel
theorem dX5_readWho_28 : decode cX5_readWho 28 = .ok (.invokevirtual 128, 3) := by decide +kernel
theorem dX5_readWho_31 : decode cX5_readWho 31 = .ok (.ifCond .ne 5, 3) := by decide +kernel
theorem dX5_readWho_34 : decode cX5_readWho 34 = .ok (.iconst 0, 1) := by decide +kernel
theorem dX5_readWho_35 : decode cX5_readWho 35 = .ok (.ireturn, 1) := by decide +kernel
theorem dX5_readWho_36 : decode cX5_readWho 36 = .ok (.aload_n 0, 1) := by decide +kernel
theorem dX5_readWho_37 : decode cX5_readWho 37 = .ok (.getfield 122, 3) := by decide +kernel
theorem dX5_readWho_40 : decode cX5_readWho 40 = .ok (.istore_n 1, 1) := by decide +kernel
theorem dX5_readWho_41 : decode cX5_readWho 41 = .ok (.aload_n 0, 1) := by decide +kernel
theorem dX5_readWho_42 : decode cX5_readWho 42 = .ok (.getfield 28, 3) := by decide +kernel
theorem dX5_readWho_45 : decode cX5_readWho 45 = .ok (.iload_n 1, 1) := by decide +kernel
theorem dX5_readWho_46 : decode cX5_readWho 46 = .ok (.invokevirtual 131, 3) := by decide +kernel
theorem dX5_readWho_49 : decode cX5_readWho 49 = .ok (.iconst (-1), 1) := by decide +kernel
theorem dX5_readWho_50 : decode cX5_readWho 50 = .ok (.if_icmp .eq 13, 3) := by decide +kernel
theorem dX5_readWho_53 : decode cX5_readWho 53 = .ok (.aload_n 0, 1) := by decide +kernel
theorem dX5_readWho_54 : decode cX5_readWho 54 = .ok (.iconst 3, 1) := by decide +kernel
theorem dX5_readWho_55 : decode cX5_readWho 55 = .ok (.aload_n 0, 1) := by decide +kernel
theorem dX5_readWho_56 : decode cX5_readWho 56 = .ok (.getfield 94, 3) := by decide +kernel
theorem dX5_readWho_59 : decode cX5_readWho 59 = .ok (.invokevirtual 97, 3) := by decide +kernel
theorem dX5_readWho_62 : decode cX5_readWho 62 = .ok (.ireturn, 1) := by decide +kernel
theorem dX5_readWho_63 : decode cX5_readWho 63 = .ok (.aload_n 0, 1) := by decide +kernel
theorem dX5_readWho_64 : decode cX5_readWho 64 = .ok (.invokevirtual 71, 3) := by decide +kernel
theorem dX5_readWho_67 : decode cX5_readWho 67 = .ok (.pop, 1) := by decide +kernel
theorem dX5_readWho_68 : decode cX5_readWho 68 = .ok (.aload_n 0, 1) := by decide +kernel
theorem dX5_readWho_69 : decode cX5_readWho 69 = .ok (.iconst 1, 1) := by decide +kernel
theorem dX5_readWho_70 : decode cX5_readWho 70 = .ok (.invokevirtual 138, 3) := by decide +kernel
theorem dX5_readWho_73 : decode cX5_readWho 73 = .ok (.ifCond .eq 13, 3) := by decide +kernel
theorem dX5_readWho_76 : decode cX5_readWho 76 = .ok (.aload_n 0, 1) := by decide +kernel
theorem dX5_readWho_77 : decode cX5_readWho 77 = .ok (.sipush 999, 3) := by decide +kernel
theorem dX5_readWho_80 : decode cX5_readWho 80 = .ok (.invokevirtual 141, 3) := by decide +kernel
theorem dX5_readWho_83 : decode cX5_readWho 83 = .ok (.ifCond .ne 5, 3) := by decide +kernel
theorem dX5_readWho_86 : decode cX5_readWho 86 = .ok (.iconst 0, 1) := by decide +kernel
theorem dX5_readWho_87 : decode cX5_readWho 87 = .ok (.ireturn, 1) := by decide +kernel
theorem dX5_readWho_88 : decode cX5_readWho 88 = .ok (.aload_n 0, 1) := by decide +kernel
theorem dX5_readWho_89 : decode cX5_readWho 89 = .ok (.getfield 28, 3) := by decide +kernel
theorem dX5_readWho_92 : decode cX5_readWho 92 = .ok (.iload_n 1, 1) := by decide +kernel
theorem dX5_readWho_93 : decode cX5_readWho 93 = .ok (.aload_n 0, 1) := by decide +kernel
theorem dX5_readWho_94 : decode cX5_readWho 94 = .ok (.getfield 122, 3) := by decide +kernel
theorem dX5_readWho_97 : decode cX5_readWho 97 = .ok (.invokevirtual 144, 3) := by decide +kernel
theorem dX5_readWho_100 : decode cX5_readWho 100 = .ok (.aload_n 0, 1) := by decide +kernel
theorem dX5_readWho_101 : decode cX5_readWho 101 = .ok (.invokevirtual 71, 3) := by decide +kernel
theorem dX5_readWho_104 : decode cX5_readWho 104 = .ok (.ireturn, 1) := by decide +kernel
theorem dX5_readRule_0 : decode cX5_readRule 0 = .ok (.aload_n 0, 1) := by decide +kernel
theorem dX5_readRule_1 : decode cX5_readRule 1 = .ok (.getfield 32, 3) := by decide +kernel
theorem dX5_readRule_4 : decode cX5_readRule 4 = .ok (.getfield 148, 3) := by decide +kernel
theorem dX5_readRule_7 : decode cX5_readRule 7 = .ok (.bipush 20, 2) := by decide +kernel
theorem dX5_readRule_9 : decode cX5_readRule 9 = .ok (.if_icmp .lt 13, 3) := by decide +kernel
theorem dX5_readRule_12 : decode cX5_readRule 12 = .ok (.aload_n 0, 1) := by decide +kernel
theorem dX5_readRule_13 : decode cX5_readRule 13 = .ok (.iconst 5, 1) := by decide +kernel
theorem dX5_readRule_14 : decode cX5_readRule 14 = .ok (.aload_n 0, 1) := by decide +kernel
theorem dX5_readRule_15 : decode cX5_readRule 15 = .ok (.getfield 94, 3) := by decide +kernel
theorem dX5_readRule_18 : decode cX5_readRule 18 = .ok (.invokevirtual 97, 3) := by decide +kernel
theorem dX5_readRule_21 : decode cX5_readRule 21 = .ok (.ireturn, 1) := by decide +kernel
theorem dX5_readRule_22 : decode cX5_readRule 22 = .ok (.aload_n 0, 1) := by decide +kernel
theorem dX5_readRule_23 : decode cX5_readRule 23 = .ok (.invokevirtual 71, 3) := by decide +kernel
theorem dX5_readRule_26 : decode cX5_readRule 26 = .ok (.pop, 1) := by decide +kernel
theorem dX5_readRule_27 : decode cX5_readRule 27 = .ok (.aload_n 0, 1) := by decide +kernel
theorem dX5_readRule_28 : decode cX5_readRule 28 = .ok (.getfield 32, 3) := by decide +kernel
theorem dX5_readRule_31 : decode cX5_readRule 31 = .ok (.getfield 149, 3) := by decide +kernel
theorem dX5_readRule_34 : decode cX5_readRule 34 = .ok (.istore_n 2, 1) := by decide +kernel
theorem dX5_readRule_35 : decode cX5_readRule 35 = .ok (.aload_n 0, 1) := by decide +kernel
theorem dX5_readRule_36 : decode cX5_readRule 36 = .ok (.invokevirtual 150, 3) := by decide +kernel
theorem dX5_readRule_39 : decode cX5_readRule 39 = .ok (.ifCond .eq 11, 3) := by decide +kernel
theorem dX5_readRule_42 : decode cX5_readRule 42 = .ok (.aload_n 0, 1) := by decide +kernel
theorem dX5_readRule_43 : decode cX5_readRule 43 = .ok (.iconst 3, 1) := by decide +kernel
theorem dX5_readRule_44 : decode cX5_readRule 44 = .ok (.invokevirtual 138, 3) := by decide +kernel
theorem dX5_readRule_47 : decode cX5_readRule 47 = .ok (.ifCond .ne 5, 3) := by decide +kernel
theorem dX5_readRule_50 : decode cX5_readRule 50 = .ok (.iconst 0, 1) := by decide +kernel
theorem dX5_readRule_51 : decode cX5_readRule 51 = .ok (.ireturn, 1) := by decide +kernel
theorem dX5_readRule_52 : decode cX5_readRule 52 = .ok (.aload_n 0, 1) := by decide +kernel
theorem dX5_readRule_53 : decode cX5_readRule 53 = .ok (.getfield 32, 3) := by decide +kernel
theorem dX5_readRule_56 : decode cX5_readRule 56 = .ok (.getfield 149, 3) := by decide +kernel
theorem dX5_readRule_59 : decode cX5_readRule 59 = .ok (.istore_n 3, 1) := by decide +kernel
theorem dX5_readRule_60 : decode cX5_readRule 60 = .ok (.aload_n 0, 1) := by decide +kernel
theorem dX5_readRule_61 : decode cX5_readRule 61 = .ok (.invokevirtual 153, 3) := by decide +kernel
theorem dX5_readRule_64 : decode cX5_readRule 64 = .ok (.ifCond .ne 5, 3) := by decide +kernel
theorem dX5_readRule_67 : decode cX5_readRule 67 = .ok (.iconst 0, 1) := by decide +kernel
theorem dX5_readRule_68 : decode cX5_readRule 68 = .ok (.ireturn, 1) := by decide +kernel
theorem dX5_readRule_69 : decode cX5_readRule 69 = .ok (.aload_n 0, 1) := by decide +kernel
theorem dX5_readRule_70 : decode cX5_readRule 70 = .ok (.getfield 32, 3) := by decide +kernel
theorem dX5_readRule_73 : decode cX5_readRule 73 = .ok (.iload_n 1, 1) := by decide +kernel
theorem dX5_readRule_74 : decode cX5_readRule 74 = .ok (.iload_n 2, 1) := by decide +kernel
theorem dX5_readRule_75 : decode cX5_readRule 75 = .ok (.iload_n 3, 1) := by decide +kernel
theorem dX5_readRule_76 : decode cX5_readRule 76 = .ok (.invokevirtual 156, 3) := by decide +kernel
theorem dX5_readRule_79 : decode cX5_readRule 79 = .ok (.iconst 1, 1) := by decide +kernel
theorem dX5_readRule_80 : decode cX5_readRule 80 = .ok (.ireturn, 1) := by decide +kernel
theorem dX5_readBar_0 : decode cX5_readBar 0 = .ok (.aload_n 0, 1) := by decide +kernel
theorem dX5_readBar_1 : decode cX5_readBar 1 = .ok (.getfield 28, 3) := by decide +kernel
theorem dX5_readBar_4 : decode cX5_readBar 4 = .ok (.getfield 159, 3) := by decide +kernel
theorem dX5_readBar_7 : decode cX5_readBar 7 = .ok (.bipush 20, 2) := by decide +kernel
theorem dX5_readBar_9 : decode cX5_readBar 9 = .ok (.if_icmp .lt 13, 3) := by decide +kernel
theorem dX5_readBar_12 : decode cX5_readBar 12 = .ok (.aload_n 0, 1) := by decide +kernel
theorem dX5_readBar_13 : decode cX5_readBar 13 = .ok (.iconst 5, 1) := by decide +kernel
theorem dX5_readBar_14 : decode cX5_readBar 14 = .ok (.aload_n 0, 1) := by decide +kernel
theorem dX5_readBar_15 : decode cX5_readBar 15 = .ok (.getfield 94, 3) := by decide +kernel
theorem dX5_readBar_18 : decode cX5_readBar 18 = .ok (.invokevirtual 97, 3) := by decide +kernel
theorem dX5_readBar_21 : decode cX5_readBar 21 = .ok (.ireturn, 1) := by decide +kernel
theorem dX5_readBar_22 : decode cX5_readBar 22 = .ok (.aload_n 0, 1) := by decide +kernel
theorem dX5_readBar_23 : decode cX5_readBar 23 = .ok (.invokevirtual 71, 3) := by decide +kernel
theorem dX5_readBar_26 : decode cX5_readBar 26 = .ok (.pop, 1) := by decide +kernel
theorem dX5_readBar_27 : decode cX5_readBar 27 = .ok (.aload_n 0, 1) := by decide +kernel
theorem dX5_readBar_28 : decode cX5_readBar 28 = .ok (.iconst (-1), 1) := by decide +kernel
theorem dX5_readBar_29 : decode cX5_readBar 29 = .ok (.invokevirtual 162, 3) := by decide +kernel
theorem dX5_readBar_32 : decode cX5_readBar 32 = .ok (.ifCond .ne 5, 3) := by decide +kernel
theorem dX5_readBar_35 : decode cX5_readBar 35 = .ok (.iconst 0, 1) := by decide +kernel
theorem dX5_readBar_36 : decode cX5_readBar 36 = .ok (.ireturn, 1) := by decide +kernel
theorem dX5_readBar_37 : decode cX5_readBar 37 = .ok (.aload_n 0, 1) := by decide +kernel
theorem dX5_readBar_38 : decode cX5_readBar 38 = .ok (.getfield 28, 3) := by decide +kernel
theorem dX5_readBar_41 : decode cX5_readBar 41 = .ok (.aload_n 0, 1) := by decide +kernel
theorem dX5_readBar_42 : decode cX5_readBar 42 = .ok (.getfield 122, 3) := by decide +kernel
theorem dX5_readBar_45 : decode cX5_readBar 45 = .ok (.invokevirtual 131, 3) := by decide +kernel
theorem dX5_readBar_48 : decode cX5_readBar 48 = .ok (.istore_n 1, 1) := by decide +kernel
theorem dX5_readBar_49 : decode cX5_readBar 49 = .ok (.aload_n 0, 1) := by decide +kernel
theorem dX5_readBar_50 : decode cX5_readBar 50 = .ok (.invokevirtual 71, 3) := by decide +kernel
theorem dX5_readBar_53 : decode cX5_readBar 53 = .ok (.pop, 1) := by decide +kernel
theorem dX5_readBar_54 : decode cX5_readBar 54 = .ok (.aload_n 0, 1) := by decide +kernel
theorem dX5_readBar_55 : decode cX5_readBar 55 = .ok (.iload_n 1, 1) := by decide +kernel
theorem dX5_readBar_56 : decode cX5_readBar 56 = .ok (.invokevirtual 162, 3) := by decide +kernel
theorem dX5_readBar_59 : decode cX5_readBar 59 = .ok (.ifCond .ne 5, 3) := by decide +kernel
theorem dX5_readBar_62 : decode cX5_readBar 62 = .ok (.iconst 0, 1) := by decide +kernel
theorem dX5_readBar_63 : decode cX5_readBar 63 = .ok (.ireturn, 1) := by decide +kernel
theorem dX5_readBar_64 : decode cX5_readBar 64 = .ok (.aload_n 0, 1) := by decide +kernel
theorem dX5_readBar_65 : decode cX5_readBar 65 = .ok (.getfield 28, 3) := by decide +kernel
theorem dX5_readBar_68 : decode cX5_readBar 68 = .ok (.dup, 1) := by decide +kernel
theorem dX5_readBar_69 : decode cX5_readBar 69 = .ok (.getfield 165, 3) := by decide +kernel
theorem dX5_readBar_72 : decode cX5_readBar 72 = .ok (.lconst 1, 1) := by decide +kernel
theorem dX5_readBar_73 : decode cX5_readBar 73 = .ok (.iload_n 1, 1) := by decide +kernel
theorem dX5_readBar_74 : decode cX5_readBar 74 = .ok (.aload_n 0, 1) := by decide +kernel
theorem dX5_readBar_75 : decode cX5_readBar 75 = .ok (.getfield 28, 3) := by decide +kernel
theorem dX5_readBar_78 : decode cX5_readBar 78 = .ok (.aload_n 0, 1) := by decide +kernel
theorem dX5_readBar_79 : decode cX5_readBar 79 = .ok (.getfield 122, 3) := by decide +kernel
theorem dX5_readBar_82 : decode cX5_readBar 82 = .ok (.invokevirtual 131, 3) := by decide +kernel
theorem dX5_readBar_85 : decode cX5_readBar 85 = .ok (.invokestatic 169, 3) := by decide +kernel
theorem dX5_readBar_88 : decode cX5_readBar 88 = .ok (.lshl, 1) := by decide +kernel
theorem dX5_readBar_89 : decode cX5_readBar 89 = .ok (.lor, 1) := by decide +kernel
theorem dX5_readBar_90 : decode cX5_readBar 90 = .ok (.putfield 165, 3) := by decide +kernel
theorem dX5_readBar_93 : decode cX5_readBar 93 = .ok (.aload_n 0, 1) := by decide +kernel
theorem dX5_readBar_94 : decode cX5_readBar 94 = .ok (.getfield 28, 3) := by decide +kernel
theorem dX5_readBar_97 : decode cX5_readBar 97 = .ok (.dup, 1) := by decide +kernel
theorem dX5_readBar_98 : decode cX5_readBar 98 = .ok (.getfield 159, 3) := by decide +kernel
theorem dX5_readBar_101 : decode cX5_readBar 101 = .ok (.iconst 1, 1) := by decide +kernel
theorem dX5_readBar_102 : decode cX5_readBar 102 = .ok (.iadd, 1) := by decide +kernel
theorem dX5_readBar_103 : decode cX5_readBar 103 = .ok (.putfield 159, 3) := by decide +kernel
theorem dX5_readBar_106 : decode cX5_readBar 106 = .ok (.aload_n 0, 1) := by decide +kernel
theorem dX5_readBar_107 : decode cX5_readBar 107 = .ok (.invokevirtual 71, 3) := by decide +kernel
theorem dX5_readBar_110 : decode cX5_readBar 110 = .ok (.ireturn, 1) := by decide +kernel
theorem dX5_readMost_0 : decode cX5_readMost 0 = .ok (.aload_n 0, 1) := by decide +kernel
theorem dX5_readMost_1 : decode cX5_readMost 1 = .ok (.invokevirtual 71, 3) := by decide +kernel
theorem dX5_readMost_4 : decode cX5_readMost 4 = .ok (.pop, 1) := by decide +kernel
theorem dX5_readMost_5 : decode cX5_readMost 5 = .ok (.aload_n 0, 1) := by decide +kernel
theorem dX5_readMost_6 : decode cX5_readMost 6 = .ok (.iconst (-1), 1) := by decide +kernel
theorem dX5_readMost_7 : decode cX5_readMost 7 = .ok (.invokevirtual 162, 3) := by decide +kernel
theorem dX5_readMost_10 : decode cX5_readMost 10 = .ok (.ifCond .ne 5, 3) := by decide +kernel
theorem dX5_readMost_13 : decode cX5_readMost 13 = .ok (.iconst 0, 1) := by decide +kernel
theorem dX5_readMost_14 : decode cX5_readMost 14 = .ok (.ireturn, 1) := by decide +kernel
theorem dX5_readMost_15 : decode cX5_readMost 15 = .ok (.aload_n 0, 1) := by decide +kernel
theorem dX5_readMost_16 : decode cX5_readMost 16 = .ok (.getfield 28, 3) := by decide +kernel
theorem dX5_readMost_19 : decode cX5_readMost 19 = .ok (.aload_n 0, 1) := by decide +kernel
theorem dX5_readMost_20 : decode cX5_readMost 20 = .ok (.getfield 122, 3) := by decide +kernel
theorem dX5_readMost_23 : decode cX5_readMost 23 = .ok (.invokevirtual 131, 3) := by decide +kernel
theorem dX5_readMost_26 : decode cX5_readMost 26 = .ok (.istore_n 1, 1) := by decide +kernel
theorem dX5_readMost_27 : decode cX5_readMost 27 = .ok (.aload_n 0, 1) := by decide +kernel
theorem dX5_readMost_28 : decode cX5_readMost 28 = .ok (.invokevirtual 71, 3) := by decide +kernel
theorem dX5_readMost_31 : decode cX5_readMost 31 = .ok (.pop, 1) := by decide +kernel
theorem dX5_readMost_32 : decode cX5_readMost 32 = .ok (.aload_n 0, 1) := by decide +kernel
theorem dX5_readMost_33 : decode cX5_readMost 33 = .ok (.bipush 9, 2) := by decide +kernel
theorem dX5_readMost_35 : decode cX5_readMost 35 = .ok (.invokevirtual 141, 3) := by decide +kernel
theorem dX5_readMost_38 : decode cX5_readMost 38 = .ok (.ifCond .ne 5, 3) := by decide +kernel
theorem dX5_readMost_41 : decode cX5_readMost 41 = .ok (.iconst 0, 1) := by decide +kernel
theorem dX5_readMost_42 : decode cX5_readMost 42 = .ok (.ireturn, 1) := by decide +kernel
theorem dX5_readMost_43 : decode cX5_readMost 43 = .ok (.aload_n 0, 1) := by decide +kernel
theorem dX5_readMost_44 : decode cX5_readMost 44 = .ok (.getfield 28, 3) := by decide +kernel
theorem dX5_readMost_47 : decode cX5_readMost 47 = .ok (.iload_n 1, 1) := by decide +kernel
theorem dX5_readMost_48 : decode cX5_readMost 48 = .ok (.invokevirtual 175, 3) := by decide +kernel
theorem dX5_readMost_51 : decode cX5_readMost 51 = .ok (.ifCond .eq 16, 3) := by decide +kernel
theorem dX5_readMost_54 : decode cX5_readMost 54 = .ok (.aload_n 0, 1) := by decide +kernel
theorem dX5_readMost_55 : decode cX5_readMost 55 = .ok (.getfield 28, 3) := by decide +kernel
theorem dX5_readMost_58 : decode cX5_readMost 58 = .ok (.getfield 178, 3) := by decide +kernel
theorem dX5_readMost_61 : decode cX5_readMost 61 = .ok (.iload_n 1, 1) := by decide +kernel
theorem dX5_readMost_62 : decode cX5_readMost 62 = .ok (.aload_n 0, 1) := by decide +kernel
theorem dX5_readMost_63 : decode cX5_readMost 63 = .ok (.getfield 122, 3) := by decide +kernel
theorem dX5_readMost_66 : decode cX5_readMost 66 = .ok (.iastore, 1) := by decide +kernel
theorem dX5_readMost_67 : decode cX5_readMost 67 = .ok (.aload_n 0, 1) := by decide +kernel
theorem dX5_readMost_68 : decode cX5_readMost 68 = .ok (.invokevirtual 71, 3) := by decide +kernel
theorem dX5_readMost_71 : decode cX5_readMost 71 = .ok (.ireturn, 1) := by decide +kernel
theorem dX5_readTest_0 : decode cX5_readTest 0 = .ok (.aload_n 0, 1) := by decide +kernel
theorem dX5_readTest_1 : decode cX5_readTest 1 = .ok (.invokevirtual 181, 3) := by decide +kernel
theorem dX5_readTest_4 : decode cX5_readTest 4 = .ok (.ifCond .ne 5, 3) := by decide +kernel
theorem dX5_readTest_7 : decode cX5_readTest 7 = .ok (.iconst 0, 1) := by decide +kernel
theorem dX5_readTest_8 : decode cX5_readTest 8 = .ok (.ireturn, 1) := by decide +kernel
theorem dX5_readTest_9 : decode cX5_readTest 9 = .ok (.iconst 0, 1) := by decide +kernel
theorem dX5_readTest_10 : decode cX5_readTest 10 = .ok (.istore_n 1, 1) := by decide +kernel
theorem dX5_readTest_11 : decode cX5_readTest 11 = .ok (.iload_n 1, 1) := by decide +kernel
theorem dX5_readTest_12 : decode cX5_readTest 12 = .ok (.sipush 800, 3) := by decide +kernel
theorem dX5_readTest_15 : decode cX5_readTest 15 = .ok (.if_icmp .ge 41, 3) := by decide +kernel
theorem dX5_readTest_18 : decode cX5_readTest 18 = .ok (.aload_n 0, 1) := by decide +kernel
theorem dX5_readTest_19 : decode cX5_readTest 19 = .ok (.getfield 78, 3) := by decide +kernel
theorem dX5_readTest_22 : decode cX5_readTest 22 = .ok (.bipush 7, 2) := by decide +kernel
theorem dX5_readTest_24 : decode cX5_readTest 24 = .ok (.if_icmp .ne 32, 3) := by decide +kernel
theorem dX5_readTest_27 : decode cX5_readTest 27 = .ok (.aload_n 0, 1) := by decide +kernel
theorem dX5_readTest_28 : decode cX5_readTest 28 = .ok (.invokevirtual 71, 3) := by decide +kernel
theorem dX5_readTest_31 : decode cX5_readTest 31 = .ok (.pop, 1) := by decide +kernel
theorem dX5_readTest_32 : decode cX5_readTest 32 = .ok (.aload_n 0, 1) := by decide +kernel
theorem dX5_readTest_33 : decode cX5_readTest 33 = .ok (.invokevirtual 181, 3) := by decide +kernel
theorem dX5_readTest_36 : decode cX5_readTest 36 = .ok (.ifCond .ne 5, 3) := by decide +kernel
theorem dX5_readTest_39 : decode cX5_readTest 39 = .ok (.iconst 0, 1) := by decide +kernel
theorem dX5_readTest_40 : decode cX5_readTest 40 = .ok (.ireturn, 1) := by decide +kernel
theorem dX5_readTest_41 : decode cX5_readTest 41 = .ok (.aload_n 0, 1) := by decide +kernel
theorem dX5_readTest_42 : decode cX5_readTest 42 = .ok (.getfield 32, 3) := by decide +kernel
theorem dX5_readTest_45 : decode cX5_readTest 45 = .ok (.bipush 10, 2) := by decide +kernel
theorem dX5_readTest_47 : decode cX5_readTest 47 = .ok (.invokevirtual 184, 3) := by decide +kernel
theorem dX5_readTest_50 : decode cX5_readTest 50 = .ok (.iinc 1 1, 3) := by decide +kernel
theorem dX5_readTest_53 : decode cX5_readTest 53 = .ok (.goto (-42), 3) := by decide +kernel
theorem dX5_readTest_56 : decode cX5_readTest 56 = .ok (.iconst 1, 1) := by decide +kernel
theorem dX5_readTest_57 : decode cX5_readTest 57 = .ok (.ireturn, 1) := by decide +kernel
theorem dX5_readBoth_0 : decode cX5_readBoth 0 = .ok (.aload_n 0, 1) := by decide +kernel
theorem dX5_readBoth_1 : decode cX5_readBoth 1 = .ok (.invokevirtual 188, 3) := by decide +kernel
theorem dX5_readBoth_4 : decode cX5_readBoth 4 = .ok (.ifCond .ne 5, 3) := by decide +kernel
theorem dX5_readBoth_7 : decode cX5_readBoth 7 = .ok (.iconst 0, 1) := by decide +kernel
theorem dX5_readBoth_8 : decode cX5_readBoth 8 = .ok (.ireturn, 1) := by decide +kernel
theorem dX5_readBoth_9 : decode cX5_readBoth 9 = .ok (.iconst 0, 1) := by decide +kernel
theorem dX5_readBoth_10 : decode cX5_readBoth 10 = .ok (.istore_n 1, 1) := by decide +kernel
theorem dX5_readBoth_11 : decode cX5_readBoth 11 = .ok (.iload_n 1, 1) := by decide +kernel
theorem dX5_readBoth_12 : decode cX5_readBoth 12 = .ok (.sipush 800, 3) := by decide +kernel
theorem dX5_readBoth_15 : decode cX5_readBoth 15 = .ok (.if_icmp .ge 41, 3) := by decide +kernel
theorem dX5_readBoth_18 : decode cX5_readBoth 18 = .ok (.aload_n 0, 1) := by decide +kernel
theorem dX5_readBoth_19 : decode cX5_readBoth 19 = .ok (.getfield 78, 3) := by decide +kernel
theorem dX5_readBoth_22 : decode cX5_readBoth 22 = .ok (.bipush 8, 2) := by decide +kernel
theorem dX5_readBoth_24 : decode cX5_readBoth 24 = .ok (.if_icmp .ne 32, 3) := by decide +kernel
theorem dX5_readBoth_27 : decode cX5_readBoth 27 = .ok (.aload_n 0, 1) := by decide +kernel
theorem dX5_readBoth_28 : decode cX5_readBoth 28 = .ok (.invokevirtual 71, 3) := by decide +kernel
theorem dX5_readBoth_31 : decode cX5_readBoth 31 = .ok (.pop, 1) := by decide +kernel
theorem dX5_readBoth_32 : decode cX5_readBoth 32 = .ok (.aload_n 0, 1) := by decide +kernel
theorem dX5_readBoth_33 : decode cX5_readBoth 33 = .ok (.invokevirtual 188, 3) := by decide +kernel
theorem dX5_readBoth_36 : decode cX5_readBoth 36 = .ok (.ifCond .ne 5, 3) := by decide +kernel
theorem dX5_readBoth_39 : decode cX5_readBoth 39 = .ok (.iconst 0, 1) := by decide +kernel
theorem dX5_readBoth_40 : decode cX5_readBoth 40 = .ok (.ireturn, 1) := by decide +kernel
theorem dX5_readBoth_41 : decode cX5_readBoth 41 = .ok (.aload_n 0, 1) := by decide +kernel
theorem dX5_readBoth_42 : decode cX5_readBoth 42 = .ok (.getfield 32, 3) := by decide +kernel
theorem dX5_readBoth_45 : decode cX5_readBoth 45 = .ok (.bipush 9, 2) := by decide +kernel
theorem dX5_readBoth_47 : decode cX5_readBoth 47 = .ok (.invokevirtual 184, 3) := by decide +kernel
theorem dX5_readBoth_50 : decode cX5_readBoth 50 = .ok (.iinc 1 1, 3) := by decide +kernel
theorem dX5_readBoth_53 : decode cX5_readBoth 53 = .ok (.goto (-42), 3) := by decide +kernel
theorem dX5_readBoth_56 : decode cX5_readBoth 56 = .ok (.iconst 1, 1) := by decide +kernel
theorem dX5_readBoth_57 : decode cX5_readBoth 57 = .ok (.ireturn, 1) := by decide +kernel
theorem dX5_readFact_0 : decode cX5_readFact 0 = .ok (.aload_n 0, 1) := by decide +kernel
theorem dX5_readFact_1 : decode cX5_readFact 1 = .ok (.getfield 78, 3) := by decide +kernel
theorem dX5_readFact_4 : decode cX5_readFact 4 = .ok (.bipush 9, 2) := by decide +kernel
theorem dX5_readFact_6 : decode cX5_readFact 6 = .ok (.if_icmp .ne 40, 3) := by decide +kernel
theorem dX5_readFact_9 : decode cX5_readFact 9 = .ok (.aload_n 0, 1) := by decide +kernel
theorem dX5_readFact_10 : decode cX5_readFact 10 = .ok (.invokevirtual 191, 3) := by decide +kernel
theorem dX5_readFact_13 : decode cX5_readFact 13 = .ok (.ifCond .eq 10, 3) := by decide +kernel
theorem dX5_readFact_16 : decode cX5_readFact 16 = .ok (.aload_n 0, 1) := by decide +kernel
theorem dX5_readFact_17 : decode cX5_readFact 17 = .ok (.invokevirtual 188, 3) := by decide +kernel
theorem dX5_readFact_20 : decode cX5_readFact 20 = .ok (.ifCond .ne 5, 3) := by decide +kernel
theorem dX5_readFact_23 : decode cX5_readFact 23 = .ok (.iconst 0, 1) := by decide +kernel
theorem dX5_readFact_24 : decode cX5_readFact 24 = .ok (.ireturn, 1) := by decide +kernel
theorem dX5_readFact_25 : decode cX5_readFact 25 = .ok (.aload_n 0, 1) := by decide +kernel
theorem dX5_readFact_26 : decode cX5_readFact 26 = .ok (.dup, 1) := by decide +kernel
theorem dX5_readFact_27 : decode cX5_readFact 27 = .ok (.getfield 62, 3) := by decide +kernel
theorem dX5_readFact_30 : decode cX5_readFact 30 = .ok (.iconst 1, 1) := by decide +kernel
theorem dX5_readFact_31 : decode cX5_readFact 31 = .ok (.isub, 1) := by decide +kernel
theorem dX5_readFact_32 : decode cX5_readFact 32 = .ok (.putfield 62, 3) := by decide +kernel
theorem dX5_readFact_35 : decode cX5_readFact 35 = .ok (.aload_n 0, 1) := by decide +kernel
theorem dX5_readFact_36 : decode cX5_readFact 36 = .ok (.getfield 32, 3) := by decide +kernel
theorem dX5_readFact_39 : decode cX5_readFact 39 = .ok (.bipush 11, 2) := by decide +kernel
theorem dX5_readFact_41 : decode cX5_readFact 41 = .ok (.invokevirtual 184, 3) := by decide +kernel
theorem dX5_readFact_44 : decode cX5_readFact 44 = .ok (.iconst 1, 1) := by decide +kernel
theorem dX5_readFact_45 : decode cX5_readFact 45 = .ok (.ireturn, 1) := by decide +kernel
theorem dX5_readFact_46 : decode cX5_readFact 46 = .ok (.aload_n 0, 1) := by decide +kernel
theorem dX5_readFact_47 : decode cX5_readFact 47 = .ok (.bipush 91, 2) := by decide +kernel
theorem dX5_readFact_49 : decode cX5_readFact 49 = .ok (.invokevirtual 125, 3) := by decide +kernel
theorem dX5_readFact_52 : decode cX5_readFact 52 = .ok (.ifCond .eq 32, 3) := by decide +kernel
theorem dX5_readFact_55 : decode cX5_readFact 55 = .ok (.aload_n 0, 1) := by decide +kernel
theorem dX5_readFact_56 : decode cX5_readFact 56 = .ok (.invokevirtual 191, 3) := by decide +kernel
theorem dX5_readFact_59 : decode cX5_readFact 59 = .ok (.ifCond .eq 23, 3) := by decide +kernel
theorem dX5_readFact_62 : decode cX5_readFact 62 = .ok (.aload_n 0, 1) := by decide +kernel
theorem dX5_readFact_63 : decode cX5_readFact 63 = .ok (.invokevirtual 153, 3) := by decide +kernel
theorem dX5_readFact_66 : decode cX5_readFact 66 = .ok (.ifCond .eq 16, 3) := by decide +kernel
theorem dX5_readFact_69 : decode cX5_readFact 69 = .ok (.aload_n 0, 1) := by decide +kernel
theorem dX5_readFact_70 : decode cX5_readFact 70 = .ok (.bipush 93, 2) := by decide +kernel
theorem dX5_readFact_72 : decode cX5_readFact 72 = .ok (.invokevirtual 101, 3) := by decide +kernel
theorem dX5_readFact_75 : decode cX5_readFact 75 = .ok (.ifCond .eq 7, 3) := by decide +kernel
theorem dX5_readFact_78 : decode cX5_readFact 78 = .ok (.iconst 1, 1) := by decide +kernel
theorem dX5_readFact_79 : decode cX5_readFact 79 = .ok (.goto 4, 3) := by decide +kernel
theorem dX5_readFact_82 : decode cX5_readFact 82 = .ok (.iconst 0, 1) := by decide +kernel
theorem dX5_readFact_83 : decode cX5_readFact 83 = .ok (.ireturn, 1) := by decide +kernel
theorem dX5_readFact_84 : decode cX5_readFact 84 = .ok (.aload_n 0, 1) := by decide +kernel
theorem dX5_readFact_85 : decode cX5_readFact 85 = .ok (.getfield 78, 3) := by decide +kernel
theorem dX5_readFact_88 : decode cX5_readFact 88 = .ok (.bipush 10, 2) := by decide +kernel
theorem dX5_readFact_90 : decode cX5_readFact 90 = .ok (.if_icmp .ne 17, 3) := by decide +kernel
theorem dX5_readFact_93 : decode cX5_readFact 93 = .ok (.aload_n 0, 1) := by decide +kernel
theorem dX5_readFact_94 : decode cX5_readFact 94 = .ok (.getfield 32, 3) := by decide +kernel
theorem dX5_readFact_97 : decode cX5_readFact 97 = .ok (.bipush 12, 2) := by decide +kernel
theorem dX5_readFact_99 : decode cX5_readFact 99 = .ok (.invokevirtual 184, 3) := by decide +kernel
theorem dX5_readFact_102 : decode cX5_readFact 102 = .ok (.aload_n 0, 1) := by decide +kernel
theorem dX5_readFact_103 : decode cX5_readFact 103 = .ok (.invokevirtual 71, 3) := by decide +kernel
theorem dX5_readFact_106 : decode cX5_readFact 106 = .ok (.ireturn, 1) := by decide +kernel
theorem dX5_readFact_107 : decode cX5_readFact 107 = .ok (.aload_n 0, 1) := by decide +kernel
theorem dX5_readFact_108 : decode cX5_readFact 108 = .ok (.getfield 78, 3) := by decide +kernel
theorem dX5_readFact_111 : decode cX5_readFact 111 = .ok (.bipush 11, 2) := by decide +kernel
theorem dX5_readFact_113 : decode cX5_readFact 113 = .ok (.if_icmp .ne 44, 3) := by decide +kernel
theorem dX5_readFact_116 : decode cX5_readFact 116 = .ok (.aload_n 0, 1) := by decide +kernel
theorem dX5_readFact_117 : decode cX5_readFact 117 = .ok (.invokevirtual 71, 3) := by decide +kernel
theorem dX5_readFact_120 : decode cX5_readFact 120 = .ok (.pop, 1) := by decide +kernel
theorem dX5_readFact_121 : decode cX5_readFact 121 = .ok (.aload_n 0, 1) := by decide +kernel
theorem dX5_readFact_122 : decode cX5_readFact 122 = .ok (.iconst (-1), 1) := by decide +kernel
theorem dX5_readFact_123 : decode cX5_readFact 123 = .ok (.invokevirtual 162, 3) := by decide +kernel
theorem dX5_readFact_126 : decode cX5_readFact 126 = .ok (.ifCond .ne 5, 3) := by decide +kernel
theorem dX5_readFact_129 : decode cX5_readFact 129 = .ok (.iconst 0, 1) := by decide +kernel
theorem dX5_readFact_130 : decode cX5_readFact 130 = .ok (.ireturn, 1) := by decide +kernel
theorem dX5_readFact_131 : decode cX5_readFact 131 = .ok (.aload_n 0, 1) := by decide +kernel
theorem dX5_readFact_132 : decode cX5_readFact 132 = .ok (.getfield 32, 3) := by decide +kernel
theorem dX5_readFact_135 : decode cX5_readFact 135 = .ok (.bipush 30, 2) := by decide +kernel
theorem dX5_readFact_137 : decode cX5_readFact 137 = .ok (.aload_n 0, 1) := by decide +kernel
theorem dX5_readFact_138 : decode cX5_readFact 138 = .ok (.getfield 28, 3) := by decide +kernel
theorem dX5_readFact_141 : decode cX5_readFact 141 = .ok (.aload_n 0, 1) := by decide +kernel
theorem dX5_readFact_142 : decode cX5_readFact 142 = .ok (.getfield 122, 3) := by decide +kernel
theorem dX5_readFact_145 : decode cX5_readFact 145 = .ok (.invokevirtual 131, 3) := by decide +kernel
theorem dX5_readFact_148 : decode cX5_readFact 148 = .ok (.iadd, 1) := by decide +kernel
theorem dX5_readFact_149 : decode cX5_readFact 149 = .ok (.invokevirtual 184, 3) := by decide +kernel
theorem dX5_readFact_152 : decode cX5_readFact 152 = .ok (.aload_n 0, 1) := by decide +kernel
theorem dX5_readFact_153 : decode cX5_readFact 153 = .ok (.invokevirtual 71, 3) := by decide +kernel
theorem dX5_readFact_156 : decode cX5_readFact 156 = .ok (.ireturn, 1) := by decide +kernel
theorem dX5_readFact_157 : decode cX5_readFact 157 = .ok (.aload_n 0, 1) := by decide +kernel
theorem dX5_readFact_158 : decode cX5_readFact 158 = .ok (.invokevirtual 194, 3) := by decide +kernel
theorem dX5_readFact_161 : decode cX5_readFact 161 = .ok (.ireturn, 1) := by decide +kernel
theorem dX5_readComparison_0 : decode cX5_readComparison 0 = .ok (.aload_n 0, 1) := by decide +kernel
theorem dX5_readComparison_1 : decode cX5_readComparison 1 = .ok (.invokevirtual 150, 3) := by decide +kernel
theorem dX5_readComparison_4 : decode cX5_readComparison 4 = .ok (.ifCond .ne 5, 3) := by decide +kernel
theorem dX5_readComparison_7 : decode cX5_readComparison 7 = .ok (.iconst 0, 1) := by decide +kernel
theorem dX5_readComparison_8 : decode cX5_readComparison 8 = .ok (.ireturn, 1) := by decide +kernel
theorem dX5_readComparison_9 : decode cX5_readComparison 9 = .ok (.aload_n 0, 1) := by decide +kernel
theorem dX5_readComparison_10 : decode cX5_readComparison 10 = .ok (.bipush 60, 2) := by decide +kernel
theorem dX5_readComparison_12 : decode cX5_readComparison 12 = .ok (.invokevirtual 125, 3) := by decide +kernel
theorem dX5_readComparison_15 : decode cX5_readComparison 15 = .ok (.ifCond .eq 8, 3) := by decide +kernel
theorem dX5_readComparison_18 : decode cX5_readComparison 18 = .ok (.bipush 6, 2) := by decide +kernel
theorem dX5_readComparison_20 : decode cX5_readComparison 20 = .ok (.goto 32, 3) := by decide +kernel
theorem dX5_readComparison_23 : decode cX5_readComparison 23 = .ok (.aload_n 0, 1) := by decide +kernel
theorem dX5_readComparison_24 : decode cX5_readComparison 24 = .ok (.bipush 62, 2) := by decide +kernel
theorem dX5_readComparison_26 : decode cX5_readComparison 26 = .ok (.invokevirtual 125, 3) := by decide +kernel
theorem dX5_readComparison_29 : decode cX5_readComparison 29 = .ok (.ifCond .eq 8, 3) := by decide +kernel
theorem dX5_readComparison_32 : decode cX5_readComparison 32 = .ok (.bipush 7, 2) := by decide +kernel
theorem dX5_readComparison_34 : decode cX5_readComparison 34 = .ok (.goto 18, 3) := by decide +kernel
theorem dX5_readComparison_37 : decode cX5_readComparison 37 = .ok (.aload_n 0, 1) := by decide +kernel
theorem dX5_readComparison_38 : decode cX5_readComparison 38 = .ok (.bipush 61, 2) := by decide +kernel
theorem dX5_readComparison_40 : decode cX5_readComparison 40 = .ok (.invokevirtual 125, 3) := by decide +kernel
theorem dX5_readComparison_43 : decode cX5_readComparison 43 = .ok (.ifCond .eq 8, 3) := by decide +kernel
theorem dX5_readComparison_46 : decode cX5_readComparison 46 = .ok (.bipush 8, 2) := by decide +kernel
theorem dX5_readComparison_48 : decode cX5_readComparison 48 = .ok (.goto 4, 3) := by decide +kernel
theorem dX5_readComparison_51 : decode cX5_readComparison 51 = .ok (.iconst (-1), 1) := by decide +kernel
theorem dX5_readComparison_52 : decode cX5_readComparison 52 = .ok (.istore_n 1, 1) := by decide +kernel
theorem dX5_readComparison_53 : decode cX5_readComparison 53 = .ok (.iload_n 1, 1) := by decide +kernel
theorem dX5_readComparison_54 : decode cX5_readComparison 54 = .ok (.iconst (-1), 1) := by decide +kernel
theorem dX5_readComparison_55 : decode cX5_readComparison 55 = .ok (.if_icmp .ne 13, 3) := by decide +kernel
theorem dX5_readComparison_58 : decode cX5_readComparison 58 = .ok (.aload_n 0, 1) := by decide +kernel
theorem dX5_readComparison_59 : decode cX5_readComparison 59 = .ok (.iconst 1, 1) := by decide +kernel
theorem dX5_readComparison_60 : decode cX5_readComparison 60 = .ok (.aload_n 0, 1) := by decide +kernel
theorem dX5_readComparison_61 : decode cX5_readComparison 61 = .ok (.getfield 94, 3) := by decide +kernel
theorem dX5_readComparison_64 : decode cX5_readComparison 64 = .ok (.invokevirtual 97, 3) := by decide +kernel
theorem dX5_readComparison_67 : decode cX5_readComparison 67 = .ok (.ireturn, 1) := by decide +kernel
theorem dX5_readComparison_68 : decode cX5_readComparison 68 = .ok (.aload_n 0, 1) := by decide +kernel
theorem dX5_readComparison_69 : decode cX5_readComparison 69 = .ok (.invokevirtual 71, 3) := by decide +kernel
theorem dX5_readComparison_72 : decode cX5_readComparison 72 = .ok (.pop, 1) := by decide +kernel
theorem dX5_readComparison_73 : decode cX5_readComparison 73 = .ok (.aload_n 0, 1) := by decide +kernel
theorem dX5_readComparison_74 : decode cX5_readComparison 74 = .ok (.invokevirtual 150, 3) := by decide +kernel
theorem dX5_readComparison_77 : decode cX5_readComparison 77 = .ok (.ifCond .ne 5, 3) := by decide +kernel
theorem dX5_readComparison_80 : decode cX5_readComparison 80 = .ok (.iconst 0, 1) := by decide +kernel
theorem dX5_readComparison_81 : decode cX5_readComparison 81 = .ok (.ireturn, 1) := by decide +kernel
theorem dX5_readComparison_82 : decode cX5_readComparison 82 = .ok (.aload_n 0, 1) := by decide +kernel
theorem dX5_readComparison_83 : decode cX5_readComparison 83 = .ok (.getfield 32, 3) := by decide +kernel
theorem dX5_readComparison_86 : decode cX5_readComparison 86 = .ok (.iload_n 1, 1) := by decide +kernel
theorem dX5_readComparison_87 : decode cX5_readComparison 87 = .ok (.invokevirtual 184, 3) := by decide +kernel
theorem dX5_readComparison_90 : decode cX5_readComparison 90 = .ok (.iconst 1, 1) := by decide +kernel
theorem dX5_readComparison_91 : decode cX5_readComparison 91 = .ok (.ireturn, 1) := by decide +kernel
theorem dX5_readSum_0 : decode cX5_readSum 0 = .ok (.aload_n 0, 1) := by decide +kernel
theorem dX5_readSum_1 : decode cX5_readSum 1 = .ok (.invokevirtual 197, 3) := by decide +kernel
theorem dX5_readSum_4 : decode cX5_readSum 4 = .ok (.ifCond .ne 5, 3) := by decide +kernel
theorem dX5_readSum_7 : decode cX5_readSum 7 = .ok (.iconst 0, 1) := by decide +kernel
theorem dX5_readSum_8 : decode cX5_readSum 8 = .ok (.ireturn, 1) := by decide +kernel
theorem dX5_readSum_9 : decode cX5_readSum 9 = .ok (.iconst 0, 1) := by decide +kernel
theorem dX5_readSum_10 : decode cX5_readSum 10 = .ok (.istore_n 1, 1) := by decide +kernel
theorem dX5_readSum_11 : decode cX5_readSum 11 = .ok (.iload_n 1, 1) := by decide +kernel
theorem dX5_readSum_12 : decode cX5_readSum 12 = .ok (.sipush 800, 3) := by decide +kernel
theorem dX5_readSum_15 : decode cX5_readSum 15 = .ok (.if_icmp .ge 64, 3) := by decide +kernel
theorem dX5_readSum_18 : decode cX5_readSum 18 = .ok (.aload_n 0, 1) := by decide +kernel
theorem dX5_readSum_19 : decode cX5_readSum 19 = .ok (.bipush 43, 2) := by decide +kernel
theorem dX5_readSum_21 : decode cX5_readSum 21 = .ok (.invokevirtual 125, 3) := by decide +kernel
theorem dX5_readSum_24 : decode cX5_readSum 24 = .ok (.ifCond .ne 12, 3) := by decide +kernel
theorem dX5_readSum_27 : decode cX5_readSum 27 = .ok (.aload_n 0, 1) := by decide +kernel
theorem dX5_readSum_28 : decode cX5_readSum 28 = .ok (.bipush 45, 2) := by decide +kernel
theorem dX5_readSum_30 : decode cX5_readSum 30 = .ok (.invokevirtual 125, 3) := by decide +kernel
theorem dX5_readSum_33 : decode cX5_readSum 33 = .ok (.ifCond .eq 46, 3) := by decide +kernel
theorem dX5_readSum_36 : decode cX5_readSum 36 = .ok (.aload_n 0, 1) := by decide +kernel
theorem dX5_readSum_37 : decode cX5_readSum 37 = .ok (.bipush 43, 2) := by decide +kernel
theorem dX5_readSum_39 : decode cX5_readSum 39 = .ok (.invokevirtual 125, 3) := by decide +kernel
theorem dX5_readSum_42 : decode cX5_readSum 42 = .ok (.ifCond .eq 7, 3) := by decide +kernel
theorem dX5_readSum_45 : decode cX5_readSum 45 = .ok (.iconst 0, 1) := by decide +kernel
theorem dX5_readSum_46 : decode cX5_readSum 46 = .ok (.goto 4, 3) := by decide +kernel
theorem dX5_readSum_49 : decode cX5_readSum 49 = .ok (.iconst 1, 1) := by decide +kernel
theorem dX5_readSum_50 : decode cX5_readSum 50 = .ok (.istore_n 2, 1) := by decide +kernel
theorem dX5_readSum_51 : decode cX5_readSum 51 = .ok (.aload_n 0, 1) := by decide +kernel
theorem dX5_readSum_52 : decode cX5_readSum 52 = .ok (.invokevirtual 71, 3) := by decide +kernel
theorem dX5_readSum_55 : decode cX5_readSum 55 = .ok (.pop, 1) := by decide +kernel
theorem dX5_readSum_56 : decode cX5_readSum 56 = .ok (.aload_n 0, 1) := by decide +kernel
theorem dX5_readSum_57 : decode cX5_readSum 57 = .ok (.invokevirtual 197, 3) := by decide +kernel
theorem dX5_readSum_60 : decode cX5_readSum 60 = .ok (.ifCond .ne 5, 3) := by decide +kernel
theorem dX5_readSum_63 : decode cX5_readSum 63 = .ok (.iconst 0, 1) := by decide +kernel
theorem dX5_readSum_64 : decode cX5_readSum 64 = .ok (.ireturn, 1) := by decide +kernel
theorem dX5_readSum_65 : decode cX5_readSum 65 = .ok (.aload_n 0, 1) := by decide +kernel
theorem dX5_readSum_66 : decode cX5_readSum 66 = .ok (.getfield 32, 3) := by decide +kernel
theorem dX5_readSum_69 : decode cX5_readSum 69 = .ok (.iload_n 2, 1) := by decide +kernel
theorem dX5_readSum_70 : decode cX5_readSum 70 = .ok (.invokevirtual 184, 3) := by decide +kernel
theorem dX5_readSum_73 : decode cX5_readSum 73 = .ok (.iinc 1 1, 3) := by decide +kernel
theorem dX5_readSum_76 : decode cX5_readSum 76 = .ok (.goto (-65), 3) := by decide +kernel
theorem dX5_readSum_79 : decode cX5_readSum 79 = .ok (.iconst 1, 1) := by decide +kernel
theorem dX5_readSum_80 : decode cX5_readSum 80 = .ok (.ireturn, 1) := by decide +kernel
theorem dX5_readProduct_0 : decode cX5_readProduct 0 = .ok (.aload_n 0, 1) := by decide +kernel
theorem dX5_readProduct_1 : decode cX5_readProduct 1 = .ok (.invokevirtual 200, 3) := by decide +kernel
theorem dX5_readProduct_4 : decode cX5_readProduct 4 = .ok (.ifCond .ne 5, 3) := by decide +kernel
theorem dX5_readProduct_7 : decode cX5_readProduct 7 = .ok (.iconst 0, 1) := by decide +kernel
theorem dX5_readProduct_8 : decode cX5_readProduct 8 = .ok (.ireturn, 1) := by decide +kernel
theorem dX5_readProduct_9 : decode cX5_readProduct 9 = .ok (.iconst 0, 1) := by decide +kernel
theorem dX5_readProduct_10 : decode cX5_readProduct 10 = .ok (.istore_n 1, 1) := by decide +kernel
theorem dX5_readProduct_11 : decode cX5_readProduct 11 = .ok (.iload_n 1, 1) := by decide +kernel
theorem dX5_readProduct_12 : decode cX5_readProduct 12 = .ok (.sipush 800, 3) := by decide +kernel
theorem dX5_readProduct_15 : decode cX5_readProduct 15 = .ok (.if_icmp .ge 64, 3) := by decide +kernel
theorem dX5_readProduct_18 : decode cX5_readProduct 18 = .ok (.aload_n 0, 1) := by decide +kernel
theorem dX5_readProduct_19 : decode cX5_readProduct 19 = .ok (.bipush 42, 2) := by decide +kernel
theorem dX5_readProduct_21 : decode cX5_readProduct 21 = .ok (.invokevirtual 125, 3) := by decide +kernel
theorem dX5_readProduct_24 : decode cX5_readProduct 24 = .ok (.ifCond .ne 12, 3) := by decide +kernel
theorem dX5_readProduct_27 : decode cX5_readProduct 27 = .ok (.aload_n 0, 1) := by decide +kernel
theorem dX5_readProduct_28 : decode cX5_readProduct 28 = .ok (.bipush 47, 2) := by decide +kernel
theorem dX5_readProduct_30 : decode cX5_readProduct 30 = .ok (.invokevirtual 125, 3) := by decide +kernel
theorem dX5_readProduct_33 : decode cX5_readProduct 33 = .ok (.ifCond .eq 46, 3) := by decide +kernel
theorem dX5_readProduct_36 : decode cX5_readProduct 36 = .ok (.aload_n 0, 1) := by decide +kernel
theorem dX5_readProduct_37 : decode cX5_readProduct 37 = .ok (.bipush 42, 2) := by decide +kernel
theorem dX5_readProduct_39 : decode cX5_readProduct 39 = .ok (.invokevirtual 125, 3) := by decide +kernel
theorem dX5_readProduct_42 : decode cX5_readProduct 42 = .ok (.ifCond .eq 7, 3) := by decide +kernel
theorem dX5_readProduct_45 : decode cX5_readProduct 45 = .ok (.iconst 2, 1) := by decide +kernel
theorem dX5_readProduct_46 : decode cX5_readProduct 46 = .ok (.goto 4, 3) := by decide +kernel
theorem dX5_readProduct_49 : decode cX5_readProduct 49 = .ok (.iconst 3, 1) := by decide +kernel
theorem dX5_readProduct_50 : decode cX5_readProduct 50 = .ok (.istore_n 2, 1) := by decide +kernel
theorem dX5_readProduct_51 : decode cX5_readProduct 51 = .ok (.aload_n 0, 1) := by decide +kernel
theorem dX5_readProduct_52 : decode cX5_readProduct 52 = .ok (.invokevirtual 71, 3) := by decide +kernel
theorem dX5_readProduct_55 : decode cX5_readProduct 55 = .ok (.pop, 1) := by decide +kernel
theorem dX5_readProduct_56 : decode cX5_readProduct 56 = .ok (.aload_n 0, 1) := by decide +kernel
theorem dX5_readProduct_57 : decode cX5_readProduct 57 = .ok (.invokevirtual 200, 3) := by decide +kernel
theorem dX5_readProduct_60 : decode cX5_readProduct 60 = .ok (.ifCond .ne 5, 3) := by decide +kernel
theorem dX5_readProduct_63 : decode cX5_readProduct 63 = .ok (.iconst 0, 1) := by decide +kernel
theorem dX5_readProduct_64 : decode cX5_readProduct 64 = .ok (.ireturn, 1) := by decide +kernel
theorem dX5_readProduct_65 : decode cX5_readProduct 65 = .ok (.aload_n 0, 1) := by decide +kernel
theorem dX5_readProduct_66 : decode cX5_readProduct 66 = .ok (.getfield 32, 3) := by decide +kernel
theorem dX5_readProduct_69 : decode cX5_readProduct 69 = .ok (.iload_n 2, 1) := by decide +kernel
theorem dX5_readProduct_70 : decode cX5_readProduct 70 = .ok (.invokevirtual 184, 3) := by decide +kernel
theorem dX5_readProduct_73 : decode cX5_readProduct 73 = .ok (.iinc 1 1, 3) := by decide +kernel
theorem dX5_readProduct_76 : decode cX5_readProduct 76 = .ok (.goto (-65), 3) := by decide +kernel
theorem dX5_readProduct_79 : decode cX5_readProduct 79 = .ok (.iconst 1, 1) := by decide +kernel
theorem dX5_readProduct_80 : decode cX5_readProduct 80 = .ok (.ireturn, 1) := by decide +kernel
theorem dX5_readPart_0 : decode cX5_readPart 0 = .ok (.aload_n 0, 1) := by decide +kernel
theorem dX5_readPart_1 : decode cX5_readPart 1 = .ok (.getfield 75, 3) := by decide +kernel
theorem dX5_readPart_4 : decode cX5_readPart 4 = .ok (.iconst 2, 1) := by decide +kernel
theorem dX5_readPart_5 : decode cX5_readPart 5 = .ok (.if_icmp .ne 33, 3) := by decide +kernel
theorem dX5_readPart_8 : decode cX5_readPart 8 = .ok (.aload_n 0, 1) := by decide +kernel
theorem dX5_readPart_9 : decode cX5_readPart 9 = .ok (.ldc 203, 2) := by decide +kernel
theorem dX5_readPart_11 : decode cX5_readPart 11 = .ok (.invokevirtual 141, 3) := by decide +kernel
theorem dX5_readPart_14 : decode cX5_readPart 14 = .ok (.ifCond .ne 5, 3) := by decide +kernel
theorem dX5_readPart_17 : decode cX5_readPart 17 = .ok (.iconst 0, 1) := by decide +kernel
theorem dX5_readPart_18 : decode cX5_readPart 18 = .ok (.ireturn, 1) := by decide +kernel
theorem dX5_readPart_19 : decode cX5_readPart 19 = .ok (.aload_n 0, 1) := by decide +kernel
theorem dX5_readPart_20 : decode cX5_readPart 20 = .ok (.getfield 32, 3) := by decide +kernel
theorem dX5_readPart_23 : decode cX5_readPart 23 = .ok (.bipush 100, 2) := by decide +kernel
theorem dX5_readPart_25 : decode cX5_readPart 25 = .ok (.aload_n 0, 1) := by decide +kernel
theorem dX5_readPart_26 : decode cX5_readPart 26 = .ok (.getfield 122, 3) := by decide +kernel
theorem dX5_readPart_29 : decode cX5_readPart 29 = .ok (.iadd, 1) := by decide +kernel
theorem dX5_readPart_30 : decode cX5_readPart 30 = .ok (.invokevirtual 184, 3) := by decide +kernel
theorem dX5_readPart_33 : decode cX5_readPart 33 = .ok (.aload_n 0, 1) := by decide +kernel
theorem dX5_readPart_34 : decode cX5_readPart 34 = .ok (.invokevirtual 71, 3) := by decide +kernel
theorem dX5_readPart_37 : decode cX5_readPart 37 = .ok (.ireturn, 1) := by decide +kernel
theorem dX5_readPart_38 : decode cX5_readPart 38 = .ok (.aload_n 0, 1) := by decide +kernel
theorem dX5_readPart_39 : decode cX5_readPart 39 = .ok (.bipush 40, 2) := by decide +kernel
theorem dX5_readPart_41 : decode cX5_readPart 41 = .ok (.invokevirtual 125, 3) := by decide +kernel
theorem dX5_readPart_44 : decode cX5_readPart 44 = .ok (.ifCond .eq 32, 3) := by decide +kernel
theorem dX5_readPart_47 : decode cX5_readPart 47 = .ok (.aload_n 0, 1) := by decide +kernel
