theorem dX12_test_84 : decode cX12_test 84 = .ok (.invokevirtual 290, 3) := by decide +kernel
theorem dX12_test_87 : decode cX12_test 87 = .ok (.aload_n 0, 1) := by decide +kernel
theorem dX12_test_88 : decode cX12_test 88 = .ok (.getfield 166, 3) := by decide +kernel
theorem dX12_test_91 : decode cX12_test 91 = .ok (.ifCond .ne 14, 3) := by decide +kernel
theorem dX12_test_94 : decode cX12_test 94 = .ok (.aload_n 0, 1) := by decide +kernel
theorem dX12_test_95 : decode cX12_test 95 = .ok (.invokevirtual 293, 3) := by decide +kernel
theorem dX12_test_98 : decode cX12_test 98 = .ok (.ifCond .eq 7, 3) := by decide +kernel
theorem dX12_test_101 : decode cX12_test 101 = .ok (.iconst 1, 1) := by decide +kernel
theorem dX12_test_102 : decode cX12_test 102 = .ok (.goto 4, 3) := by decide +kernel
theorem dX12_test_105 : decode cX12_test 105 = .ok (.iconst 0, 1) := by decide +kernel
theorem dX12_test_106 : decode cX12_test 106 = .ok (.istore_n 1, 1) := by decide +kernel
theorem dX12_test_107 : decode cX12_test 107 = .ok (.goto (-105), 3) := by decide +kernel
theorem dX12_test_110 : decode cX12_test 110 = .ok (.aload_n 0, 1) := by decide +kernel
theorem dX12_test_111 : decode cX12_test 111 = .ok (.getfield 166, 3) := by decide +kernel
theorem dX12_test_114 : decode cX12_test 114 = .ok (.ifCond .ne 17, 3) := by decide +kernel
theorem dX12_test_117 : decode cX12_test 117 = .ok (.aload_n 0, 1) := by decide +kernel
theorem dX12_test_118 : decode cX12_test 118 = .ok (.getfield 235, 3) := by decide +kernel
theorem dX12_test_121 : decode cX12_test 121 = .ok (.ifCond .le 10, 3) := by decide +kernel
theorem dX12_test_124 : decode cX12_test 124 = .ok (.aload_n 0, 1) := by decide +kernel
theorem dX12_test_125 : decode cX12_test 125 = .ok (.invokevirtual 248, 3) := by decide +kernel
theorem dX12_test_128 : decode cX12_test 128 = .ok (.goto (-18), 3) := by decide +kernel
theorem dX12_test_131 : decode cX12_test 131 = .ok (.return_, 1) := by decide +kernel
theorem dX12_goesOnTest_0 : decode cX12_goesOnTest 0 = .ok (.aload_n 0, 1) := by decide +kernel
theorem dX12_goesOnTest_1 : decode cX12_goesOnTest 1 = .ok (.getfield 166, 3) := by decide +kernel
theorem dX12_goesOnTest_4 : decode cX12_goesOnTest 4 = .ok (.ifCond .ne 72, 3) := by decide +kernel
theorem dX12_goesOnTest_7 : decode cX12_goesOnTest 7 = .ok (.aload_n 0, 1) := by decide +kernel
theorem dX12_goesOnTest_8 : decode cX12_goesOnTest 8 = .ok (.invokevirtual 178, 3) := by decide +kernel
theorem dX12_goesOnTest_11 : decode cX12_goesOnTest 11 = .ok (.bipush 93, 2) := by decide +kernel
theorem dX12_goesOnTest_13 : decode cX12_goesOnTest 13 = .ok (.if_icmp .ne 63, 3) := by decide +kernel
theorem dX12_goesOnTest_16 : decode cX12_goesOnTest 16 = .ok (.aload_n 0, 1) := by decide +kernel
theorem dX12_goesOnTest_17 : decode cX12_goesOnTest 17 = .ok (.invokevirtual 296, 3) := by decide +kernel
theorem dX12_goesOnTest_20 : decode cX12_goesOnTest 20 = .ok (.ifCond .eq 56, 3) := by decide +kernel
theorem dX12_goesOnTest_23 : decode cX12_goesOnTest 23 = .ok (.aload_n 0, 1) := by decide +kernel
theorem dX12_goesOnTest_24 : decode cX12_goesOnTest 24 = .ok (.dup, 1) := by decide +kernel
theorem dX12_goesOnTest_25 : decode cX12_goesOnTest 25 = .ok (.getfield 172, 3) := by decide +kernel
theorem dX12_goesOnTest_28 : decode cX12_goesOnTest 28 = .ok (.iconst 1, 1) := by decide +kernel
theorem dX12_goesOnTest_29 : decode cX12_goesOnTest 29 = .ok (.iadd, 1) := by decide +kernel
theorem dX12_goesOnTest_30 : decode cX12_goesOnTest 30 = .ok (.putfield 172, 3) := by decide +kernel
theorem dX12_goesOnTest_33 : decode cX12_goesOnTest 33 = .ok (.aload_n 0, 1) := by decide +kernel
theorem dX12_goesOnTest_34 : decode cX12_goesOnTest 34 = .ok (.bipush 25, 2) := by decide +kernel
theorem dX12_goesOnTest_36 : decode cX12_goesOnTest 36 = .ok (.invokevirtual 271, 3) := by decide +kernel
theorem dX12_goesOnTest_39 : decode cX12_goesOnTest 39 = .ok (.ifCond .ne 10, 3) := by decide +kernel
theorem dX12_goesOnTest_42 : decode cX12_goesOnTest 42 = .ok (.aload_n 0, 1) := by decide +kernel
theorem dX12_goesOnTest_43 : decode cX12_goesOnTest 43 = .ok (.invokevirtual 248, 3) := by decide +kernel
theorem dX12_goesOnTest_46 : decode cX12_goesOnTest 46 = .ok (.goto (-13), 3) := by decide +kernel
theorem dX12_goesOnTest_49 : decode cX12_goesOnTest 49 = .ok (.aload_n 0, 1) := by decide +kernel
theorem dX12_goesOnTest_50 : decode cX12_goesOnTest 50 = .ok (.dup, 1) := by decide +kernel
theorem dX12_goesOnTest_51 : decode cX12_goesOnTest 51 = .ok (.getfield 235, 3) := by decide +kernel
theorem dX12_goesOnTest_54 : decode cX12_goesOnTest 54 = .ok (.iconst 1, 1) := by decide +kernel
theorem dX12_goesOnTest_55 : decode cX12_goesOnTest 55 = .ok (.isub, 1) := by decide +kernel
theorem dX12_goesOnTest_56 : decode cX12_goesOnTest 56 = .ok (.putfield 235, 3) := by decide +kernel
theorem dX12_goesOnTest_59 : decode cX12_goesOnTest 59 = .ok (.aload_n 0, 1) := by decide +kernel
theorem dX12_goesOnTest_60 : decode cX12_goesOnTest 60 = .ok (.dup, 1) := by decide +kernel
theorem dX12_goesOnTest_61 : decode cX12_goesOnTest 61 = .ok (.getfield 232, 3) := by decide +kernel
theorem dX12_goesOnTest_64 : decode cX12_goesOnTest 64 = .ok (.iconst 1, 1) := by decide +kernel
theorem dX12_goesOnTest_65 : decode cX12_goesOnTest 65 = .ok (.isub, 1) := by decide +kernel
theorem dX12_goesOnTest_66 : decode cX12_goesOnTest 66 = .ok (.putfield 232, 3) := by decide +kernel
theorem dX12_goesOnTest_69 : decode cX12_goesOnTest 69 = .ok (.aload_n 0, 1) := by decide +kernel
theorem dX12_goesOnTest_70 : decode cX12_goesOnTest 70 = .ok (.invokevirtual 290, 3) := by decide +kernel
theorem dX12_goesOnTest_73 : decode cX12_goesOnTest 73 = .ok (.goto (-73), 3) := by decide +kernel
theorem dX12_goesOnTest_76 : decode cX12_goesOnTest 76 = .ok (.aload_n 0, 1) := by decide +kernel
theorem dX12_goesOnTest_77 : decode cX12_goesOnTest 77 = .ok (.aload_n 0, 1) := by decide +kernel
theorem dX12_goesOnTest_78 : decode cX12_goesOnTest 78 = .ok (.getfield 42, 3) := by decide +kernel
theorem dX12_goesOnTest_81 : decode cX12_goesOnTest 81 = .ok (.invokevirtual 193, 3) := by decide +kernel
theorem dX12_goesOnTest_84 : decode cX12_goesOnTest 84 = .ok (.ifCond .eq 42, 3) := by decide +kernel
theorem dX12_goesOnTest_87 : decode cX12_goesOnTest 87 = .ok (.aload_n 0, 1) := by decide +kernel
theorem dX12_goesOnTest_88 : decode cX12_goesOnTest 88 = .ok (.bipush 14, 2) := by decide +kernel
theorem dX12_goesOnTest_90 : decode cX12_goesOnTest 90 = .ok (.invokevirtual 271, 3) := by decide +kernel
theorem dX12_goesOnTest_93 : decode cX12_goesOnTest 93 = .ok (.ifCond .eq 10, 3) := by decide +kernel
theorem dX12_goesOnTest_96 : decode cX12_goesOnTest 96 = .ok (.aload_n 0, 1) := by decide +kernel
theorem dX12_goesOnTest_97 : decode cX12_goesOnTest 97 = .ok (.invokevirtual 248, 3) := by decide +kernel
theorem dX12_goesOnTest_100 : decode cX12_goesOnTest 100 = .ok (.goto (-13), 3) := by decide +kernel
theorem dX12_goesOnTest_103 : decode cX12_goesOnTest 103 = .ok (.aload_n 0, 1) := by decide +kernel
theorem dX12_goesOnTest_104 : decode cX12_goesOnTest 104 = .ok (.getfield 112, 3) := by decide +kernel
theorem dX12_goesOnTest_107 : decode cX12_goesOnTest 107 = .ok (.aload_n 0, 1) := by decide +kernel
theorem dX12_goesOnTest_108 : decode cX12_goesOnTest 108 = .ok (.getfield 235, 3) := by decide +kernel
theorem dX12_goesOnTest_111 : decode cX12_goesOnTest 111 = .ok (.bipush 14, 2) := by decide +kernel
theorem dX12_goesOnTest_113 : decode cX12_goesOnTest 113 = .ok (.iastore, 1) := by decide +kernel
theorem dX12_goesOnTest_114 : decode cX12_goesOnTest 114 = .ok (.aload_n 0, 1) := by decide +kernel
theorem dX12_goesOnTest_115 : decode cX12_goesOnTest 115 = .ok (.dup, 1) := by decide +kernel
theorem dX12_goesOnTest_116 : decode cX12_goesOnTest 116 = .ok (.getfield 235, 3) := by decide +kernel
theorem dX12_goesOnTest_119 : decode cX12_goesOnTest 119 = .ok (.iconst 1, 1) := by decide +kernel
theorem dX12_goesOnTest_120 : decode cX12_goesOnTest 120 = .ok (.iadd, 1) := by decide +kernel
theorem dX12_goesOnTest_121 : decode cX12_goesOnTest 121 = .ok (.putfield 235, 3) := by decide +kernel
theorem dX12_goesOnTest_124 : decode cX12_goesOnTest 124 = .ok (.iconst 1, 1) := by decide +kernel
theorem dX12_goesOnTest_125 : decode cX12_goesOnTest 125 = .ok (.ireturn, 1) := by decide +kernel
theorem dX12_goesOnTest_126 : decode cX12_goesOnTest 126 = .ok (.aload_n 0, 1) := by decide +kernel
theorem dX12_goesOnTest_127 : decode cX12_goesOnTest 127 = .ok (.aload_n 0, 1) := by decide +kernel
theorem dX12_goesOnTest_128 : decode cX12_goesOnTest 128 = .ok (.getfield 39, 3) := by decide +kernel
theorem dX12_goesOnTest_131 : decode cX12_goesOnTest 131 = .ok (.invokevirtual 193, 3) := by decide +kernel
theorem dX12_goesOnTest_134 : decode cX12_goesOnTest 134 = .ok (.ifCond .eq 51, 3) := by decide +kernel
theorem dX12_goesOnTest_137 : decode cX12_goesOnTest 137 = .ok (.aload_n 0, 1) := by decide +kernel
theorem dX12_goesOnTest_138 : decode cX12_goesOnTest 138 = .ok (.bipush 14, 2) := by decide +kernel
theorem dX12_goesOnTest_140 : decode cX12_goesOnTest 140 = .ok (.invokevirtual 271, 3) := by decide +kernel
theorem dX12_goesOnTest_143 : decode cX12_goesOnTest 143 = .ok (.ifCond .ne 12, 3) := by decide +kernel
theorem dX12_goesOnTest_146 : decode cX12_goesOnTest 146 = .ok (.aload_n 0, 1) := by decide +kernel
theorem dX12_goesOnTest_147 : decode cX12_goesOnTest 147 = .ok (.bipush 15, 2) := by decide +kernel
theorem dX12_goesOnTest_149 : decode cX12_goesOnTest 149 = .ok (.invokevirtual 271, 3) := by decide +kernel
theorem dX12_goesOnTest_152 : decode cX12_goesOnTest 152 = .ok (.ifCond .eq 10, 3) := by decide +kernel
theorem dX12_goesOnTest_155 : decode cX12_goesOnTest 155 = .ok (.aload_n 0, 1) := by decide +kernel
theorem dX12_goesOnTest_156 : decode cX12_goesOnTest 156 = .ok (.invokevirtual 248, 3) := by decide +kernel
theorem dX12_goesOnTest_159 : decode cX12_goesOnTest 159 = .ok (.goto (-22), 3) := by decide +kernel
theorem dX12_goesOnTest_162 : decode cX12_goesOnTest 162 = .ok (.aload_n 0, 1) := by decide +kernel
theorem dX12_goesOnTest_163 : decode cX12_goesOnTest 163 = .ok (.getfield 112, 3) := by decide +kernel
theorem dX12_goesOnTest_166 : decode cX12_goesOnTest 166 = .ok (.aload_n 0, 1) := by decide +kernel
theorem dX12_goesOnTest_167 : decode cX12_goesOnTest 167 = .ok (.getfield 235, 3) := by decide +kernel
theorem dX12_goesOnTest_170 : decode cX12_goesOnTest 170 = .ok (.bipush 15, 2) := by decide +kernel
theorem dX12_goesOnTest_172 : decode cX12_goesOnTest 172 = .ok (.iastore, 1) := by decide +kernel
theorem dX12_goesOnTest_173 : decode cX12_goesOnTest 173 = .ok (.aload_n 0, 1) := by decide +kernel
theorem dX12_goesOnTest_174 : decode cX12_goesOnTest 174 = .ok (.dup, 1) := by decide +kernel
theorem dX12_goesOnTest_175 : decode cX12_goesOnTest 175 = .ok (.getfield 235, 3) := by decide +kernel
theorem dX12_goesOnTest_178 : decode cX12_goesOnTest 178 = .ok (.iconst 1, 1) := by decide +kernel
theorem dX12_goesOnTest_179 : decode cX12_goesOnTest 179 = .ok (.iadd, 1) := by decide +kernel
theorem dX12_goesOnTest_180 : decode cX12_goesOnTest 180 = .ok (.putfield 235, 3) := by decide +kernel
theorem dX12_goesOnTest_183 : decode cX12_goesOnTest 183 = .ok (.iconst 1, 1) := by decide +kernel
theorem dX12_goesOnTest_184 : decode cX12_goesOnTest 184 = .ok (.ireturn, 1) := by decide +kernel
theorem dX12_goesOnTest_185 : decode cX12_goesOnTest 185 = .ok (.aload_n 0, 1) := by decide +kernel
theorem dX12_goesOnTest_186 : decode cX12_goesOnTest 186 = .ok (.getfield 166, 3) := by decide +kernel
theorem dX12_goesOnTest_189 : decode cX12_goesOnTest 189 = .ok (.ifCond .ne 19, 3) := by decide +kernel
theorem dX12_goesOnTest_192 : decode cX12_goesOnTest 192 = .ok (.aload_n 0, 1) := by decide +kernel
theorem dX12_goesOnTest_193 : decode cX12_goesOnTest 193 = .ok (.invokevirtual 296, 3) := by decide +kernel
theorem dX12_goesOnTest_196 : decode cX12_goesOnTest 196 = .ok (.ifCond .eq 12, 3) := by decide +kernel
theorem dX12_goesOnTest_199 : decode cX12_goesOnTest 199 = .ok (.aload_n 0, 1) := by decide +kernel
theorem dX12_goesOnTest_200 : decode cX12_goesOnTest 200 = .ok (.iconst 1, 1) := by decide +kernel
theorem dX12_goesOnTest_201 : decode cX12_goesOnTest 201 = .ok (.aload_n 0, 1) := by decide +kernel
theorem dX12_goesOnTest_202 : decode cX12_goesOnTest 202 = .ok (.getfield 172, 3) := by decide +kernel
theorem dX12_goesOnTest_205 : decode cX12_goesOnTest 205 = .ok (.invokevirtual 196, 3) := by decide +kernel
theorem dX12_goesOnTest_208 : decode cX12_goesOnTest 208 = .ok (.iconst 0, 1) := by decide +kernel
theorem dX12_goesOnTest_209 : decode cX12_goesOnTest 209 = .ok (.ireturn, 1) := by decide +kernel
theorem dX12_who_0 : decode cX12_who 0 = .ok (.aload_n 0, 1) := by decide +kernel
theorem dX12_who_1 : decode cX12_who 1 = .ok (.getfield 75, 3) := by decide +kernel
theorem dX12_who_4 : decode cX12_who 4 = .ok (.iconst 0, 1) := by decide +kernel
theorem dX12_who_5 : decode cX12_who 5 = .ok (.iaload, 1) := by decide +kernel
theorem dX12_who_6 : decode cX12_who 6 = .ok (.istore_n 1, 1) := by decide +kernel
theorem dX12_who_7 : decode cX12_who 7 = .ok (.aload_n 0, 1) := by decide +kernel
theorem dX12_who_8 : decode cX12_who 8 = .ok (.invokevirtual 221, 3) := by decide +kernel
theorem dX12_who_11 : decode cX12_who 11 = .ok (.lstore_n 2, 1) := by decide +kernel
theorem dX12_who_12 : decode cX12_who 12 = .ok (.aload_n 0, 1) := by decide +kernel
theorem dX12_who_13 : decode cX12_who 13 = .ok (.getfield 166, 3) := by decide +kernel
theorem dX12_who_16 : decode cX12_who 16 = .ok (.ifCond .ne 21, 3) := by decide +kernel
theorem dX12_who_19 : decode cX12_who 19 = .ok (.aload_n 0, 1) := by decide +kernel
theorem dX12_who_20 : decode cX12_who 20 = .ok (.lload_n 2, 1) := by decide +kernel
theorem dX12_who_21 : decode cX12_who 21 = .ok (.invokevirtual 225, 3) := by decide +kernel
theorem dX12_who_24 : decode cX12_who 24 = .ok (.iconst (-1), 1) := by decide +kernel
theorem dX12_who_25 : decode cX12_who 25 = .ok (.if_icmp .eq 12, 3) := by decide +kernel
theorem dX12_who_28 : decode cX12_who 28 = .ok (.aload_n 0, 1) := by decide +kernel
theorem dX12_who_29 : decode cX12_who 29 = .ok (.iconst 3, 1) := by decide +kernel
theorem dX12_who_30 : decode cX12_who 30 = .ok (.aload_n 0, 1) := by decide +kernel
theorem dX12_who_31 : decode cX12_who 31 = .ok (.getfield 214, 3) := by decide +kernel
theorem dX12_who_34 : decode cX12_who 34 = .ok (.invokevirtual 196, 3) := by decide +kernel
theorem dX12_who_37 : decode cX12_who 37 = .ok (.aload_n 0, 1) := by decide +kernel
theorem dX12_who_38 : decode cX12_who 38 = .ok (.getfield 78, 3) := by decide +kernel
theorem dX12_who_41 : decode cX12_who 41 = .ok (.iload_n 1, 1) := by decide +kernel
theorem dX12_who_42 : decode cX12_who 42 = .ok (.lload_n 2, 1) := by decide +kernel
theorem dX12_who_43 : decode cX12_who 43 = .ok (.lastore, 1) := by decide +kernel
theorem dX12_who_44 : decode cX12_who 44 = .ok (.aload_n 0, 1) := by decide +kernel
theorem dX12_who_45 : decode cX12_who 45 = .ok (.aload_n 0, 1) := by decide +kernel
theorem dX12_who_46 : decode cX12_who 46 = .ok (.getfield 21, 3) := by decide +kernel
theorem dX12_who_49 : decode cX12_who 49 = .ok (.invokevirtual 254, 3) := by decide +kernel
theorem dX12_who_52 : decode cX12_who 52 = .ok (.aload_n 0, 1) := by decide +kernel
theorem dX12_who_53 : decode cX12_who 53 = .ok (.getfield 82, 3) := by decide +kernel
theorem dX12_who_56 : decode cX12_who 56 = .ok (.iload_n 1, 1) := by decide +kernel
theorem dX12_who_57 : decode cX12_who 57 = .ok (.aload_n 0, 1) := by decide +kernel
theorem dX12_who_58 : decode cX12_who 58 = .ok (.iconst 0, 1) := by decide +kernel
theorem dX12_who_59 : decode cX12_who 59 = .ok (.sipush 999, 3) := by decide +kernel
theorem dX12_who_62 : decode cX12_who 62 = .ok (.invokevirtual 261, 3) := by decide +kernel
theorem dX12_who_65 : decode cX12_who 65 = .ok (.iastore, 1) := by decide +kernel
theorem dX12_who_66 : decode cX12_who 66 = .ok (.aload_n 0, 1) := by decide +kernel
theorem dX12_who_67 : decode cX12_who 67 = .ok (.getfield 85, 3) := by decide +kernel
theorem dX12_who_70 : decode cX12_who 70 = .ok (.iload_n 1, 1) := by decide +kernel
theorem dX12_who_71 : decode cX12_who 71 = .ok (.bipush 9, 2) := by decide +kernel
theorem dX12_who_73 : decode cX12_who 73 = .ok (.iastore, 1) := by decide +kernel
theorem dX12_who_74 : decode cX12_who 74 = .ok (.aload_n 0, 1) := by decide +kernel
theorem dX12_who_75 : decode cX12_who 75 = .ok (.getfield 75, 3) := by decide +kernel
theorem dX12_who_78 : decode cX12_who 78 = .ok (.iconst 0, 1) := by decide +kernel
theorem dX12_who_79 : decode cX12_who 79 = .ok (.dup2, 1) := by decide +kernel
theorem dX12_who_80 : decode cX12_who 80 = .ok (.iaload, 1) := by decide +kernel
theorem dX12_who_81 : decode cX12_who 81 = .ok (.iconst 1, 1) := by decide +kernel
theorem dX12_who_82 : decode cX12_who 82 = .ok (.iadd, 1) := by decide +kernel
theorem dX12_who_83 : decode cX12_who 83 = .ok (.iastore, 1) := by decide +kernel
theorem dX12_who_84 : decode cX12_who 84 = .ok (.return_, 1) := by decide +kernel
theorem dX12_rule_0 : decode cX12_rule 0 = .ok (.aload_n 0, 1) := by decide +kernel
theorem dX12_rule_1 : decode cX12_rule 1 = .ok (.getfield 88, 3) := by decide +kernel
theorem dX12_rule_4 : decode cX12_rule 4 = .ok (.iconst 0, 1) := by decide +kernel
theorem dX12_rule_5 : decode cX12_rule 5 = .ok (.iaload, 1) := by decide +kernel
theorem dX12_rule_6 : decode cX12_rule 6 = .ok (.istore_n 2, 1) := by decide +kernel
theorem dX12_rule_7 : decode cX12_rule 7 = .ok (.aload_n 0, 1) := by decide +kernel
theorem dX12_rule_8 : decode cX12_rule 8 = .ok (.getfield 91, 3) := by decide +kernel
theorem dX12_rule_11 : decode cX12_rule 11 = .ok (.iload_n 2, 1) := by decide +kernel
theorem dX12_rule_12 : decode cX12_rule 12 = .ok (.iload_n 1, 1) := by decide +kernel
theorem dX12_rule_13 : decode cX12_rule 13 = .ok (.iastore, 1) := by decide +kernel
theorem dX12_rule_14 : decode cX12_rule 14 = .ok (.aload_n 0, 1) := by decide +kernel
theorem dX12_rule_15 : decode cX12_rule 15 = .ok (.iconst 0, 1) := by decide +kernel
theorem dX12_rule_16 : decode cX12_rule 16 = .ok (.putfield 235, 3) := by decide +kernel
theorem dX12_rule_19 : decode cX12_rule 19 = .ok (.aload_n 0, 1) := by decide +kernel
theorem dX12_rule_20 : decode cX12_rule 20 = .ok (.iconst 0, 1) := by decide +kernel
theorem dX12_rule_21 : decode cX12_rule 21 = .ok (.putfield 232, 3) := by decide +kernel
theorem dX12_rule_24 : decode cX12_rule 24 = .ok (.aload_n 0, 1) := by decide +kernel
theorem dX12_rule_25 : decode cX12_rule 25 = .ok (.iconst 0, 1) := by decide +kernel
theorem dX12_rule_26 : decode cX12_rule 26 = .ok (.putfield 242, 3) := by decide +kernel
theorem dX12_rule_29 : decode cX12_rule 29 = .ok (.aload_n 0, 1) := by decide +kernel
theorem dX12_rule_30 : decode cX12_rule 30 = .ok (.getfield 94, 3) := by decide +kernel
theorem dX12_rule_33 : decode cX12_rule 33 = .ok (.iload_n 2, 1) := by decide +kernel
theorem dX12_rule_34 : decode cX12_rule 34 = .ok (.aload_n 0, 1) := by decide +kernel
theorem dX12_rule_35 : decode cX12_rule 35 = .ok (.getfield 229, 3) := by decide +kernel
theorem dX12_rule_38 : decode cX12_rule 38 = .ok (.iastore, 1) := by decide +kernel
theorem dX12_rule_39 : decode cX12_rule 39 = .ok (.aload_n 0, 1) := by decide +kernel
theorem dX12_rule_40 : decode cX12_rule 40 = .ok (.getfield 166, 3) := by decide +kernel
theorem dX12_rule_43 : decode cX12_rule 43 = .ok (.ifCond .ne 7, 3) := by decide +kernel
theorem dX12_rule_46 : decode cX12_rule 46 = .ok (.aload_n 0, 1) := by decide +kernel
theorem dX12_rule_47 : decode cX12_rule 47 = .ok (.invokevirtual 284, 3) := by decide +kernel
theorem dX12_rule_50 : decode cX12_rule 50 = .ok (.aload_n 0, 1) := by decide +kernel
theorem dX12_rule_51 : decode cX12_rule 51 = .ok (.getfield 97, 3) := by decide +kernel
theorem dX12_rule_54 : decode cX12_rule 54 = .ok (.iload_n 2, 1) := by decide +kernel
theorem dX12_rule_55 : decode cX12_rule 55 = .ok (.aload_n 0, 1) := by decide +kernel
theorem dX12_rule_56 : decode cX12_rule 56 = .ok (.getfield 229, 3) := by decide +kernel
theorem dX12_rule_59 : decode cX12_rule 59 = .ok (.iastore, 1) := by decide +kernel
theorem dX12_rule_60 : decode cX12_rule 60 = .ok (.aload_n 0, 1) := by decide +kernel
theorem dX12_rule_61 : decode cX12_rule 61 = .ok (.aload_n 0, 1) := by decide +kernel
theorem dX12_rule_62 : decode cX12_rule 62 = .ok (.getfield 27, 3) := by decide +kernel
theorem dX12_rule_65 : decode cX12_rule 65 = .ok (.invokevirtual 254, 3) := by decide +kernel
theorem dX12_rule_68 : decode cX12_rule 68 = .ok (.aload_n 0, 1) := by decide +kernel
theorem dX12_rule_69 : decode cX12_rule 69 = .ok (.getfield 166, 3) := by decide +kernel
theorem dX12_rule_72 : decode cX12_rule 72 = .ok (.ifCond .ne 7, 3) := by decide +kernel
theorem dX12_rule_75 : decode cX12_rule 75 = .ok (.aload_n 0, 1) := by decide +kernel
theorem dX12_rule_76 : decode cX12_rule 76 = .ok (.invokevirtual 299, 3) := by decide +kernel
theorem dX12_rule_79 : decode cX12_rule 79 = .ok (.aload_n 0, 1) := by decide +kernel
theorem dX12_rule_80 : decode cX12_rule 80 = .ok (.getfield 100, 3) := by decide +kernel
theorem dX12_rule_83 : decode cX12_rule 83 = .ok (.iload_n 2, 1) := by decide +kernel
theorem dX12_rule_84 : decode cX12_rule 84 = .ok (.aload_n 0, 1) := by decide +kernel
theorem dX12_rule_85 : decode cX12_rule 85 = .ok (.getfield 229, 3) := by decide +kernel
theorem dX12_rule_88 : decode cX12_rule 88 = .ok (.iastore, 1) := by decide +kernel
theorem dX12_rule_89 : decode cX12_rule 89 = .ok (.aload_n 0, 1) := by decide +kernel
theorem dX12_rule_90 : decode cX12_rule 90 = .ok (.getfield 88, 3) := by decide +kernel
theorem dX12_rule_93 : decode cX12_rule 93 = .ok (.iconst 0, 1) := by decide +kernel
theorem dX12_rule_94 : decode cX12_rule 94 = .ok (.dup2, 1) := by decide +kernel
theorem dX12_rule_95 : decode cX12_rule 95 = .ok (.iaload, 1) := by decide +kernel
theorem dX12_rule_96 : decode cX12_rule 96 = .ok (.iconst 1, 1) := by decide +kernel
theorem dX12_rule_97 : decode cX12_rule 97 = .ok (.iadd, 1) := by decide +kernel
theorem dX12_rule_98 : decode cX12_rule 98 = .ok (.iastore, 1) := by decide +kernel
theorem dX12_rule_99 : decode cX12_rule 99 = .ok (.return_, 1) := by decide +kernel
theorem dX12_statement_0 : decode cX12_statement 0 = .ok (.aload_n 0, 1) := by decide +kernel
theorem dX12_statement_1 : decode cX12_statement 1 = .ok (.invokevirtual 178, 3) := by decide +kernel
theorem dX12_statement_4 : decode cX12_statement 4 = .ok (.pop, 1) := by decide +kernel
theorem dX12_statement_5 : decode cX12_statement 5 = .ok (.aload_n 0, 1) := by decide +kernel
theorem dX12_statement_6 : decode cX12_statement 6 = .ok (.getfield 172, 3) := by decide +kernel
theorem dX12_statement_9 : decode cX12_statement 9 = .ok (.istore_n 1, 1) := by decide +kernel
theorem dX12_statement_10 : decode cX12_statement 10 = .ok (.aload_n 0, 1) := by decide +kernel
theorem dX12_statement_11 : decode cX12_statement 11 = .ok (.aload_n 0, 1) := by decide +kernel
theorem dX12_statement_12 : decode cX12_statement 12 = .ok (.getfield 17, 3) := by decide +kernel
theorem dX12_statement_15 : decode cX12_statement 15 = .ok (.invokevirtual 193, 3) := by decide +kernel
theorem dX12_statement_18 : decode cX12_statement 18 = .ok (.ifCond .eq 30, 3) := by decide +kernel
theorem dX12_statement_21 : decode cX12_statement 21 = .ok (.aload_n 0, 1) := by decide +kernel
theorem dX12_statement_22 : decode cX12_statement 22 = .ok (.getfield 75, 3) := by decide +kernel
theorem dX12_statement_25 : decode cX12_statement 25 = .ok (.iconst 0, 1) := by decide +kernel
theorem dX12_statement_26 : decode cX12_statement 26 = .ok (.iaload, 1) := by decide +kernel
theorem dX12_statement_27 : decode cX12_statement 27 = .ok (.bipush 10, 2) := by decide +kernel
theorem dX12_statement_29 : decode cX12_statement 29 = .ok (.if_icmp .ne 12, 3) := by decide +kernel
theorem dX12_statement_32 : decode cX12_statement 32 = .ok (.aload_n 0, 1) := by decide +kernel
theorem dX12_statement_33 : decode cX12_statement 33 = .ok (.iconst 5, 1) := by decide +kernel
theorem dX12_statement_34 : decode cX12_statement 34 = .ok (.iload_n 1, 1) := by decide +kernel
theorem dX12_statement_35 : decode cX12_statement 35 = .ok (.invokevirtual 196, 3) := by decide +kernel
theorem dX12_statement_38 : decode cX12_statement 38 = .ok (.goto 193, 3) := by decide +kernel
theorem dX12_statement_41 : decode cX12_statement 41 = .ok (.aload_n 0, 1) := by decide +kernel
theorem dX12_statement_42 : decode cX12_statement 42 = .ok (.invokevirtual 302, 3) := by decide +kernel
theorem dX12_statement_45 : decode cX12_statement 45 = .ok (.goto 186, 3) := by decide +kernel
theorem dX12_statement_48 : decode cX12_statement 48 = .ok (.aload_n 0, 1) := by decide +kernel
theorem dX12_statement_49 : decode cX12_statement 49 = .ok (.aload_n 0, 1) := by decide +kernel
theorem dX12_statement_50 : decode cX12_statement 50 = .ok (.getfield 24, 3) := by decide +kernel
theorem dX12_statement_53 : decode cX12_statement 53 = .ok (.invokevirtual 189, 3) := by decide +kernel
theorem dX12_statement_56 : decode cX12_statement 56 = .ok (.ifCond .ne 14, 3) := by decide +kernel
theorem dX12_statement_59 : decode cX12_statement 59 = .ok (.aload_n 0, 1) := by decide +kernel
theorem dX12_statement_60 : decode cX12_statement 60 = .ok (.aload_n 0, 1) := by decide +kernel
theorem dX12_statement_61 : decode cX12_statement 61 = .ok (.getfield 30, 3) := by decide +kernel
theorem dX12_statement_64 : decode cX12_statement 64 = .ok (.invokevirtual 189, 3) := by decide +kernel
theorem dX12_statement_67 : decode cX12_statement 67 = .ok (.ifCond .eq 61, 3) := by decide +kernel
theorem dX12_statement_70 : decode cX12_statement 70 = .ok (.aload_n 0, 1) := by decide +kernel
theorem dX12_statement_71 : decode cX12_statement 71 = .ok (.aload_n 0, 1) := by decide +kernel
theorem dX12_statement_72 : decode cX12_statement 72 = .ok (.getfield 24, 3) := by decide +kernel
theorem dX12_statement_75 : decode cX12_statement 75 = .ok (.invokevirtual 193, 3) := by decide +kernel
theorem dX12_statement_78 : decode cX12_statement 78 = .ok (.ifCond .eq 7, 3) := by decide +kernel
theorem dX12_statement_81 : decode cX12_statement 81 = .ok (.iconst 0, 1) := by decide +kernel
theorem dX12_statement_82 : decode cX12_statement 82 = .ok (.goto 4, 3) := by decide +kernel
theorem dX12_statement_85 : decode cX12_statement 85 = .ok (.iconst 1, 1) := by decide +kernel
theorem dX12_statement_86 : decode cX12_statement 86 = .ok (.istore_n 2, 1) := by decide +kernel
theorem dX12_statement_87 : decode cX12_statement 87 = .ok (.iload_n 2, 1) := by decide +kernel
theorem dX12_statement_88 : decode cX12_statement 88 = .ok (.iconst 1, 1) := by decide +kernel
theorem dX12_statement_89 : decode cX12_statement 89 = .ok (.if_icmp .ne 11, 3) := by decide +kernel
theorem dX12_statement_92 : decode cX12_statement 92 = .ok (.aload_n 0, 1) := by decide +kernel
theorem dX12_statement_93 : decode cX12_statement 93 = .ok (.aload_n 0, 1) := by decide +kernel
theorem dX12_statement_94 : decode cX12_statement 94 = .ok (.getfield 30, 3) := by decide +kernel
theorem dX12_statement_97 : decode cX12_statement 97 = .ok (.invokevirtual 254, 3) := by decide +kernel
theorem dX12_statement_100 : decode cX12_statement 100 = .ok (.aload_n 0, 1) := by decide +kernel
theorem dX12_statement_101 : decode cX12_statement 101 = .ok (.getfield 88, 3) := by decide +kernel
theorem dX12_statement_104 : decode cX12_statement 104 = .ok (.iconst 0, 1) := by decide +kernel
theorem dX12_statement_105 : decode cX12_statement 105 = .ok (.iaload, 1) := by decide +kernel
theorem dX12_statement_106 : decode cX12_statement 106 = .ok (.bipush 20, 2) := by decide +kernel
theorem dX12_statement_108 : decode cX12_statement 108 = .ok (.if_icmp .ne 12, 3) := by decide +kernel
theorem dX12_statement_111 : decode cX12_statement 111 = .ok (.aload_n 0, 1) := by decide +kernel
theorem dX12_statement_112 : decode cX12_statement 112 = .ok (.iconst 5, 1) := by decide +kernel
theorem dX12_statement_113 : decode cX12_statement 113 = .ok (.iload_n 1, 1) := by decide +kernel
theorem dX12_statement_114 : decode cX12_statement 114 = .ok (.invokevirtual 196, 3) := by decide +kernel
theorem dX12_statement_117 : decode cX12_statement 117 = .ok (.goto 8, 3) := by decide +kernel
theorem dX12_statement_120 : decode cX12_statement 120 = .ok (.aload_n 0, 1) := by decide +kernel
theorem dX12_statement_121 : decode cX12_statement 121 = .ok (.iload_n 2, 1) := by decide +kernel
theorem dX12_statement_122 : decode cX12_statement 122 = .ok (.invokevirtual 305, 3) := by decide +kernel
theorem dX12_statement_125 : decode cX12_statement 125 = .ok (.goto 106, 3) := by decide +kernel
theorem dX12_statement_128 : decode cX12_statement 128 = .ok (.aload_n 0, 1) := by decide +kernel
theorem dX12_statement_129 : decode cX12_statement 129 = .ok (.aload_n 0, 1) := by decide +kernel
theorem dX12_statement_130 : decode cX12_statement 130 = .ok (.getfield 33, 3) := by decide +kernel
theorem dX12_statement_133 : decode cX12_statement 133 = .ok (.invokevirtual 193, 3) := by decide +kernel
theorem dX12_statement_136 : decode cX12_statement 136 = .ok (.ifCond .eq 68, 3) := by decide +kernel
theorem dX12_statement_139 : decode cX12_statement 139 = .ok (.aload_n 0, 1) := by decide +kernel
theorem dX12_statement_140 : decode cX12_statement 140 = .ok (.getfield 103, 3) := by decide +kernel
theorem dX12_statement_143 : decode cX12_statement 143 = .ok (.iconst 0, 1) := by decide +kernel
theorem dX12_statement_144 : decode cX12_statement 144 = .ok (.iaload, 1) := by decide +kernel
theorem dX12_statement_145 : decode cX12_statement 145 = .ok (.bipush 20, 2) := by decide +kernel
theorem dX12_statement_147 : decode cX12_statement 147 = .ok (.if_icmp .ne 9, 3) := by decide +kernel
theorem dX12_statement_150 : decode cX12_statement 150 = .ok (.aload_n 0, 1) := by decide +kernel
theorem dX12_statement_151 : decode cX12_statement 151 = .ok (.iconst 5, 1) := by decide +kernel
theorem dX12_statement_152 : decode cX12_statement 152 = .ok (.iload_n 1, 1) := by decide +kernel
theorem dX12_statement_153 : decode cX12_statement 153 = .ok (.invokevirtual 196, 3) := by decide +kernel
theorem dX12_statement_156 : decode cX12_statement 156 = .ok (.aload_n 0, 1) := by decide +kernel
theorem dX12_statement_157 : decode cX12_statement 157 = .ok (.iconst (-1), 1) := by decide +kernel
theorem dX12_statement_158 : decode cX12_statement 158 = .ok (.invokevirtual 280, 3) := by decide +kernel
theorem dX12_statement_161 : decode cX12_statement 161 = .ok (.istore_n 2, 1) := by decide +kernel
theorem dX12_statement_162 : decode cX12_statement 162 = .ok (.aload_n 0, 1) := by decide +kernel
theorem dX12_statement_163 : decode cX12_statement 163 = .ok (.iload_n 2, 1) := by decide +kernel
theorem dX12_statement_164 : decode cX12_statement 164 = .ok (.invokevirtual 280, 3) := by decide +kernel
theorem dX12_statement_167 : decode cX12_statement 167 = .ok (.istore_n 3, 1) := by decide +kernel
theorem dX12_statement_168 : decode cX12_statement 168 = .ok (.aload_n 0, 1) := by decide +kernel
theorem dX12_statement_169 : decode cX12_statement 169 = .ok (.getfield 166, 3) := by decide +kernel
theorem dX12_statement_172 : decode cX12_statement 172 = .ok (.ifCond .ne 19, 3) := by decide +kernel
theorem dX12_statement_175 : decode cX12_statement 175 = .ok (.aload_n 0, 1) := by decide +kernel
theorem dX12_statement_176 : decode cX12_statement 176 = .ok (.getfield 106, 3) := by decide +kernel
theorem dX12_statement_179 : decode cX12_statement 179 = .ok (.iconst 0, 1) := by decide +kernel
theorem dX12_statement_180 : decode cX12_statement 180 = .ok (.dup2, 1) := by decide +kernel
theorem dX12_statement_181 : decode cX12_statement 181 = .ok (.laload, 1) := by decide +kernel
theorem dX12_statement_182 : decode cX12_statement 182 = .ok (.lconst 1, 1) := by decide +kernel
theorem dX12_statement_183 : decode cX12_statement 183 = .ok (.iload_n 2, 1) := by decide +kernel
theorem dX12_statement_184 : decode cX12_statement 184 = .ok (.iload_n 3, 1) := by decide +kernel
theorem dX12_statement_185 : decode cX12_statement 185 = .ok (.invokestatic 308, 3) := by decide +kernel
theorem dX12_statement_188 : decode cX12_statement 188 = .ok (.lshl, 1) := by decide +kernel
theorem dX12_statement_189 : decode cX12_statement 189 = .ok (.lor, 1) := by decide +kernel
theorem dX12_statement_190 : decode cX12_statement 190 = .ok (.lastore, 1) := by decide +kernel
theorem dX12_statement_191 : decode cX12_statement 191 = .ok (.aload_n 0, 1) := by decide +kernel
theorem dX12_statement_192 : decode cX12_statement 192 = .ok (.getfield 103, 3) := by decide +kernel
theorem dX12_statement_195 : decode cX12_statement 195 = .ok (.iconst 0, 1) := by decide +kernel
theorem dX12_statement_196 : decode cX12_statement 196 = .ok (.dup2, 1) := by decide +kernel
theorem dX12_statement_197 : decode cX12_statement 197 = .ok (.iaload, 1) := by decide +kernel
theorem dX12_statement_198 : decode cX12_statement 198 = .ok (.iconst 1, 1) := by decide +kernel
theorem dX12_statement_199 : decode cX12_statement 199 = .ok (.iadd, 1) := by decide +kernel
theorem dX12_statement_200 : decode cX12_statement 200 = .ok (.iastore, 1) := by decide +kernel
theorem dX12_statement_201 : decode cX12_statement 201 = .ok (.goto 30, 3) := by decide +kernel
theorem dX12_statement_204 : decode cX12_statement 204 = .ok (.aload_n 0, 1) := by decide +kernel
theorem dX12_statement_205 : decode cX12_statement 205 = .ok (.aload_n 0, 1) := by decide +kernel
theorem dX12_statement_206 : decode cX12_statement 206 = .ok (.getfield 36, 3) := by decide +kernel
theorem dX12_statement_209 : decode cX12_statement 209 = .ok (.invokevirtual 254, 3) := by decide +kernel
theorem dX12_statement_212 : decode cX12_statement 212 = .ok (.aload_n 0, 1) := by decide +kernel
theorem dX12_statement_213 : decode cX12_statement 213 = .ok (.iconst (-1), 1) := by decide +kernel
theorem dX12_statement_214 : decode cX12_statement 214 = .ok (.invokevirtual 280, 3) := by decide +kernel
theorem dX12_statement_217 : decode cX12_statement 217 = .ok (.istore_n 2, 1) := by decide +kernel
theorem dX12_statement_218 : decode cX12_statement 218 = .ok (.aload_n 0, 1) := by decide +kernel
theorem dX12_statement_219 : decode cX12_statement 219 = .ok (.getfield 85, 3) := by decide +kernel
theorem dX12_statement_222 : decode cX12_statement 222 = .ok (.iload_n 2, 1) := by decide +kernel
theorem dX12_statement_223 : decode cX12_statement 223 = .ok (.aload_n 0, 1) := by decide +kernel
theorem dX12_statement_224 : decode cX12_statement 224 = .ok (.iconst 0, 1) := by decide +kernel
theorem dX12_statement_225 : decode cX12_statement 225 = .ok (.bipush 9, 2) := by decide +kernel
theorem dX12_statement_227 : decode cX12_statement 227 = .ok (.invokevirtual 261, 3) := by decide +kernel
theorem dX12_statement_230 : decode cX12_statement 230 = .ok (.iastore, 1) := by decide +kernel
theorem dX12_statement_231 : decode cX12_statement 231 = .ok (.aload_n 0, 1) := by decide +kernel
theorem dX12_statement_232 : decode cX12_statement 232 = .ok (.bipush 59, 2) := by decide +kernel
theorem dX12_statement_234 : decode cX12_statement 234 = .ok (.invokevirtual 258, 3) := by decide +kernel
theorem dX12_statement_237 : decode cX12_statement 237 = .ok (.aload_n 0, 1) := by decide +kernel
theorem dX12_statement_238 : decode cX12_statement 238 = .ok (.dup, 1) := by decide +kernel
theorem dX12_statement_239 : decode cX12_statement 239 = .ok (.getfield 311, 3) := by decide +kernel
theorem dX12_statement_242 : decode cX12_statement 242 = .ok (.iconst 1, 1) := by decide +kernel
theorem dX12_statement_243 : decode cX12_statement 243 = .ok (.iadd, 1) := by decide +kernel
theorem dX12_statement_244 : decode cX12_statement 244 = .ok (.putfield 311, 3) := by decide +kernel
theorem dX12_statement_247 : decode cX12_statement 247 = .ok (.return_, 1) := by decide +kernel
theorem dX12_land_0 : decode cX12_land 0 = .ok (.aload_n 0, 1) := by decide +kernel
theorem dX12_land_1 : decode cX12_land 1 = .ok (.aload_n 0, 1) := by decide +kernel
theorem dX12_land_2 : decode cX12_land 2 = .ok (.getfield 163, 3) := by decide +kernel
theorem dX12_land_5 : decode cX12_land 5 = .ok (.putfield 175, 3) := by decide +kernel
theorem dX12_land_8 : decode cX12_land 8 = .ok (.aload_n 0, 1) := by decide +kernel
theorem dX12_land_9 : decode cX12_land 9 = .ok (.iconst 0, 1) := by decide +kernel
theorem dX12_land_10 : decode cX12_land 10 = .ok (.putfield 163, 3) := by decide +kernel
theorem dX12_land_13 : decode cX12_land 13 = .ok (.aload_n 0, 1) := by decide +kernel
theorem dX12_land_14 : decode cX12_land 14 = .ok (.iconst 0, 1) := by decide +kernel
theorem dX12_land_15 : decode cX12_land 15 = .ok (.putfield 172, 3) := by decide +kernel
theorem dX12_land_18 : decode cX12_land 18 = .ok (.aload_n 0, 1) := by decide +kernel
theorem dX12_land_19 : decode cX12_land 19 = .ok (.iconst (-1), 1) := by decide +kernel
theorem dX12_land_20 : decode cX12_land 20 = .ok (.putfield 186, 3) := by decide +kernel
theorem dX12_land_23 : decode cX12_land 23 = .ok (.aload_n 0, 1) := by decide +kernel
theorem dX12_land_24 : decode cX12_land 24 = .ok (.iconst 0, 1) := by decide +kernel
theorem dX12_land_25 : decode cX12_land 25 = .ok (.putfield 166, 3) := by decide +kernel
theorem dX12_land_28 : decode cX12_land 28 = .ok (.aload_n 0, 1) := by decide +kernel
theorem dX12_land_29 : decode cX12_land 29 = .ok (.iconst (-1), 1) := by decide +kernel
theorem dX12_land_30 : decode cX12_land 30 = .ok (.putfield 169, 3) := by decide +kernel
theorem dX12_land_33 : decode cX12_land 33 = .ok (.aload_n 0, 1) := by decide +kernel
theorem dX12_land_34 : decode cX12_land 34 = .ok (.getfield 75, 3) := by decide +kernel
theorem dX12_land_37 : decode cX12_land 37 = .ok (.iconst 0, 1) := by decide +kernel
theorem dX12_land_38 : decode cX12_land 38 = .ok (.iconst 0, 1) := by decide +kernel
theorem dX12_land_39 : decode cX12_land 39 = .ok (.iastore, 1) := by decide +kernel
theorem dX12_land_40 : decode cX12_land 40 = .ok (.aload_n 0, 1) := by decide +kernel
theorem dX12_land_41 : decode cX12_land 41 = .ok (.getfield 88, 3) := by decide +kernel
theorem dX12_land_44 : decode cX12_land 44 = .ok (.iconst 0, 1) := by decide +kernel
theorem dX12_land_45 : decode cX12_land 45 = .ok (.iconst 0, 1) := by decide +kernel
theorem dX12_land_46 : decode cX12_land 46 = .ok (.iastore, 1) := by decide +kernel
theorem dX12_land_47 : decode cX12_land 47 = .ok (.aload_n 0, 1) := by decide +kernel
theorem dX12_land_48 : decode cX12_land 48 = .ok (.getfield 103, 3) := by decide +kernel
theorem dX12_land_51 : decode cX12_land 51 = .ok (.iconst 0, 1) := by decide +kernel
theorem dX12_land_52 : decode cX12_land 52 = .ok (.iconst 0, 1) := by decide +kernel
theorem dX12_land_53 : decode cX12_land 53 = .ok (.iastore, 1) := by decide +kernel
theorem dX12_land_54 : decode cX12_land 54 = .ok (.aload_n 0, 1) := by decide +kernel
theorem dX12_land_55 : decode cX12_land 55 = .ok (.getfield 106, 3) := by decide +kernel
theorem dX12_land_58 : decode cX12_land 58 = .ok (.iconst 0, 1) := by decide +kernel
theorem dX12_land_59 : decode cX12_land 59 = .ok (.lconst 0, 1) := by decide +kernel
theorem dX12_land_60 : decode cX12_land 60 = .ok (.lastore, 1) := by decide +kernel
theorem dX12_land_61 : decode cX12_land 61 = .ok (.aload_n 0, 1) := by decide +kernel
theorem dX12_land_62 : decode cX12_land 62 = .ok (.iconst 0, 1) := by decide +kernel
theorem dX12_land_63 : decode cX12_land 63 = .ok (.putfield 229, 3) := by decide +kernel
theorem dX12_land_66 : decode cX12_land 66 = .ok (.aload_n 0, 1) := by decide +kernel
theorem dX12_land_67 : decode cX12_land 67 = .ok (.iconst 0, 1) := by decide +kernel
theorem dX12_land_68 : decode cX12_land 68 = .ok (.putfield 311, 3) := by decide +kernel
theorem dX12_land_71 : decode cX12_land 71 = .ok (.aload_n 0, 1) := by decide +kernel
theorem dX12_land_72 : decode cX12_land 72 = .ok (.getfield 166, 3) := by decide +kernel
theorem dX12_land_75 : decode cX12_land 75 = .ok (.ifCond .ne 18, 3) := by decide +kernel
theorem dX12_land_78 : decode cX12_land 78 = .ok (.aload_n 0, 1) := by decide +kernel
theorem dX12_land_79 : decode cX12_land 79 = .ok (.invokevirtual 178, 3) := by decide +kernel
theorem dX12_land_82 : decode cX12_land 82 = .ok (.iconst (-1), 1) := by decide +kernel
theorem dX12_land_83 : decode cX12_land 83 = .ok (.if_icmp .eq 10, 3) := by decide +kernel
theorem dX12_land_86 : decode cX12_land 86 = .ok (.aload_n 0, 1) := by decide +kernel
theorem dX12_land_87 : decode cX12_land 87 = .ok (.invokevirtual 314, 3) := by decide +kernel
theorem dX12_land_90 : decode cX12_land 90 = .ok (.goto (-19), 3) := by decide +kernel
theorem dX12_land_93 : decode cX12_land 93 = .ok (.aload_n 0, 1) := by decide +kernel
theorem dX12_land_94 : decode cX12_land 94 = .ok (.aload_n 0, 1) := by decide +kernel
theorem dX12_land_95 : decode cX12_land 95 = .ok (.getfield 166, 3) := by decide +kernel
theorem dX12_land_98 : decode cX12_land 98 = .ok (.putfield 317, 3) := by decide +kernel
theorem dX12_land_101 : decode cX12_land 101 = .ok (.aload_n 0, 1) := by decide +kernel
theorem dX12_land_102 : decode cX12_land 102 = .ok (.aload_n 0, 1) := by decide +kernel
theorem dX12_land_103 : decode cX12_land 103 = .ok (.getfield 169, 3) := by decide +kernel
theorem dX12_land_106 : decode cX12_land 106 = .ok (.putfield 13, 3) := by decide +kernel
theorem dX12_land_109 : decode cX12_land 109 = .ok (.aload_n 0, 1) := by decide +kernel
theorem dX12_land_110 : decode cX12_land 110 = .ok (.getfield 166, 3) := by decide +kernel
theorem dX12_land_113 : decode cX12_land 113 = .ok (.ifCond .eq 5, 3) := by decide +kernel
theorem dX12_land_116 : decode cX12_land 116 = .ok (.iconst (-1), 1) := by decide +kernel
theorem dX12_land_117 : decode cX12_land 117 = .ok (.ireturn, 1) := by decide +kernel
theorem dX12_land_118 : decode cX12_land 118 = .ok (.aload_n 0, 1) := by decide +kernel
theorem dX12_land_119 : decode cX12_land 119 = .ok (.invokevirtual 320, 3) := by decide +kernel
theorem dX12_land_122 : decode cX12_land 122 = .ok (.aload_n 0, 1) := by decide +kernel
theorem dX12_land_123 : decode cX12_land 123 = .ok (.lconst 0, 1) := by decide +kernel
theorem dX12_land_124 : decode cX12_land 124 = .ok (.putfield 323, 3) := by decide +kernel
theorem dX12_land_127 : decode cX12_land 127 = .ok (.aload_n 0, 1) := by decide +kernel
theorem dX12_land_128 : decode cX12_land 128 = .ok (.iconst 0, 1) := by decide +kernel
theorem dX12_land_129 : decode cX12_land 129 = .ok (.putfield 326, 3) := by decide +kernel
theorem dX12_land_132 : decode cX12_land 132 = .ok (.aload_n 0, 1) := by decide +kernel
theorem dX12_land_133 : decode cX12_land 133 = .ok (.iconst 0, 1) := by decide +kernel
theorem dX12_land_134 : decode cX12_land 134 = .ok (.putfield 329, 3) := by decide +kernel
theorem dX12_land_137 : decode cX12_land 137 = .ok (.aload_n 0, 1) := by decide +kernel
theorem dX12_land_138 : decode cX12_land 138 = .ok (.ldc2_w 115, 3) := by decide +kernel
theorem dX12_land_141 : decode cX12_land 141 = .ok (.putfield 117, 3) := by decide +kernel
theorem dX12_land_144 : decode cX12_land 144 = .ok (.aload_n 0, 1) := by decide +kernel
theorem dX12_land_145 : decode cX12_land 145 = .ok (.iconst (-1), 1) := by decide +kernel
theorem dX12_land_146 : decode cX12_land 146 = .ok (.putfield 139, 3) := by decide +kernel
theorem dX12_land_149 : decode cX12_land 149 = .ok (.aload_n 0, 1) := by decide +kernel
theorem dX12_land_150 : decode cX12_land 150 = .ok (.iconst 0, 1) := by decide +kernel
theorem dX12_land_151 : decode cX12_land 151 = .ok (.putfield 333, 3) := by decide +kernel
theorem dX12_land_154 : decode cX12_land 154 = .ok (.aload_n 0, 1) := by decide +kernel
theorem dX12_land_155 : decode cX12_land 155 = .ok (.iconst 0, 1) := by decide +kernel
theorem dX12_land_156 : decode cX12_land 156 = .ok (.putfield 336, 3) := by decide +kernel
theorem dX12_land_159 : decode cX12_land 159 = .ok (.aload_n 0, 1) := by decide +kernel
theorem dX12_land_160 : decode cX12_land 160 = .ok (.iconst 0, 1) := by decide +kernel
theorem dX12_land_161 : decode cX12_land 161 = .ok (.putfield 339, 3) := by decide +kernel
theorem dX12_land_164 : decode cX12_land 164 = .ok (.aload_n 0, 1) := by decide +kernel
theorem dX12_land_165 : decode cX12_land 165 = .ok (.iconst 0, 1) := by decide +kernel
theorem dX12_land_166 : decode cX12_land 166 = .ok (.putfield 342, 3) := by decide +kernel
theorem dX12_land_169 : decode cX12_land 169 = .ok (.aload_n 0, 1) := by decide +kernel
theorem dX12_land_170 : decode cX12_land 170 = .ok (.getfield 311, 3) := by decide +kernel
theorem dX12_land_173 : decode cX12_land 173 = .ok (.ireturn, 1) := by decide +kernel
theorem dX12_stands_0 : decode cX12_stands 0 = .ok (.aload_n 0, 1) := by decide +kernel
theorem dX12_stands_1 : decode cX12_stands 1 = .ok (.getfield 75, 3) := by decide +kernel
theorem dX12_stands_4 : decode cX12_stands 4 = .ok (.iconst 1, 1) := by decide +kernel
theorem dX12_stands_5 : decode cX12_stands 5 = .ok (.aload_n 0, 1) := by decide +kernel
theorem dX12_stands_6 : decode cX12_stands 6 = .ok (.getfield 75, 3) := by decide +kernel
theorem dX12_stands_9 : decode cX12_stands 9 = .ok (.iconst 0, 1) := by decide +kernel
theorem dX12_stands_10 : decode cX12_stands 10 = .ok (.iaload, 1) := by decide +kernel
theorem dX12_stands_11 : decode cX12_stands 11 = .ok (.iastore, 1) := by decide +kernel
theorem dX12_stands_12 : decode cX12_stands 12 = .ok (.aload_n 0, 1) := by decide +kernel
theorem dX12_stands_13 : decode cX12_stands 13 = .ok (.getfield 88, 3) := by decide +kernel
theorem dX12_stands_16 : decode cX12_stands 16 = .ok (.iconst 1, 1) := by decide +kernel
theorem dX12_stands_17 : decode cX12_stands 17 = .ok (.aload_n 0, 1) := by decide +kernel
theorem dX12_stands_18 : decode cX12_stands 18 = .ok (.getfield 88, 3) := by decide +kernel
theorem dX12_stands_21 : decode cX12_stands 21 = .ok (.iconst 0, 1) := by decide +kernel
theorem dX12_stands_22 : decode cX12_stands 22 = .ok (.iaload, 1) := by decide +kernel
theorem dX12_stands_23 : decode cX12_stands 23 = .ok (.iastore, 1) := by decide +kernel
theorem dX12_stands_24 : decode cX12_stands 24 = .ok (.aload_n 0, 1) := by decide +kernel
theorem dX12_stands_25 : decode cX12_stands 25 = .ok (.getfield 103, 3) := by decide +kernel
theorem dX12_stands_28 : decode cX12_stands 28 = .ok (.iconst 1, 1) := by decide +kernel
theorem dX12_stands_29 : decode cX12_stands 29 = .ok (.aload_n 0, 1) := by decide +kernel
theorem dX12_stands_30 : decode cX12_stands 30 = .ok (.getfield 103, 3) := by decide +kernel
theorem dX12_stands_33 : decode cX12_stands 33 = .ok (.iconst 0, 1) := by decide +kernel
theorem dX12_stands_34 : decode cX12_stands 34 = .ok (.iaload, 1) := by decide +kernel
theorem dX12_stands_35 : decode cX12_stands 35 = .ok (.iastore, 1) := by decide +kernel
theorem dX12_stands_36 : decode cX12_stands 36 = .ok (.aload_n 0, 1) := by decide +kernel
theorem dX12_stands_37 : decode cX12_stands 37 = .ok (.getfield 106, 3) := by decide +kernel
theorem dX12_stands_40 : decode cX12_stands 40 = .ok (.iconst 1, 1) := by decide +kernel
theorem dX12_stands_41 : decode cX12_stands 41 = .ok (.aload_n 0, 1) := by decide +kernel
theorem dX12_stands_42 : decode cX12_stands 42 = .ok (.getfield 106, 3) := by decide +kernel
theorem dX12_stands_45 : decode cX12_stands 45 = .ok (.iconst 0, 1) := by decide +kernel
theorem dX12_stands_46 : decode cX12_stands 46 = .ok (.laload, 1) := by decide +kernel
theorem dX12_stands_47 : decode cX12_stands 47 = .ok (.lastore, 1) := by decide +kernel
theorem dX12_stands_48 : decode cX12_stands 48 = .ok (.iconst 0, 1) := by decide +kernel
theorem dX12_stands_49 : decode cX12_stands 49 = .ok (.istore_n 1, 1) := by decide +kernel
theorem dX12_stands_50 : decode cX12_stands 50 = .ok (.iload_n 1, 1) := by decide +kernel
theorem dX12_stands_51 : decode cX12_stands 51 = .ok (.bipush 10, 2) := by decide +kernel
theorem dX12_stands_53 : decode cX12_stands 53 = .ok (.if_icmp .ge 54, 3) := by decide +kernel
theorem dX12_stands_56 : decode cX12_stands 56 = .ok (.aload_n 0, 1) := by decide +kernel
theorem dX12_stands_57 : decode cX12_stands 57 = .ok (.getfield 78, 3) := by decide +kernel
theorem dX12_stands_60 : decode cX12_stands 60 = .ok (.bipush 10, 2) := by decide +kernel
theorem dX12_stands_62 : decode cX12_stands 62 = .ok (.iload_n 1, 1) := by decide +kernel
theorem dX12_stands_63 : decode cX12_stands 63 = .ok (.iadd, 1) := by decide +kernel
theorem dX12_stands_64 : decode cX12_stands 64 = .ok (.aload_n 0, 1) := by decide +kernel
theorem dX12_stands_65 : decode cX12_stands 65 = .ok (.getfield 78, 3) := by decide +kernel
theorem dX12_stands_68 : decode cX12_stands 68 = .ok (.iload_n 1, 1) := by decide +kernel
theorem dX12_stands_69 : decode cX12_stands 69 = .ok (.laload, 1) := by decide +kernel
theorem dX12_stands_70 : decode cX12_stands 70 = .ok (.lastore, 1) := by decide +kernel
theorem dX12_stands_71 : decode cX12_stands 71 = .ok (.aload_n 0, 1) := by decide +kernel
theorem dX12_stands_72 : decode cX12_stands 72 = .ok (.getfield 82, 3) := by decide +kernel
theorem dX12_stands_75 : decode cX12_stands 75 = .ok (.bipush 10, 2) := by decide +kernel
theorem dX12_stands_77 : decode cX12_stands 77 = .ok (.iload_n 1, 1) := by decide +kernel
theorem dX12_stands_78 : decode cX12_stands 78 = .ok (.iadd, 1) := by decide +kernel
theorem dX12_stands_79 : decode cX12_stands 79 = .ok (.aload_n 0, 1) := by decide +kernel
theorem dX12_stands_80 : decode cX12_stands 80 = .ok (.getfield 82, 3) := by decide +kernel
theorem dX12_stands_83 : decode cX12_stands 83 = .ok (.iload_n 1, 1) := by decide +kernel
theorem dX12_stands_84 : decode cX12_stands 84 = .ok (.iaload, 1) := by decide +kernel
theorem dX12_stands_85 : decode cX12_stands 85 = .ok (.iastore, 1) := by decide +kernel
theorem dX12_stands_86 : decode cX12_stands 86 = .ok (.aload_n 0, 1) := by decide +kernel
theorem dX12_stands_87 : decode cX12_stands 87 = .ok (.getfield 85, 3) := by decide +kernel
theorem dX12_stands_90 : decode cX12_stands 90 = .ok (.bipush 10, 2) := by decide +kernel
theorem dX12_stands_92 : decode cX12_stands 92 = .ok (.iload_n 1, 1) := by decide +kernel
theorem dX12_stands_93 : decode cX12_stands 93 = .ok (.iadd, 1) := by decide +kernel
theorem dX12_stands_94 : decode cX12_stands 94 = .ok (.aload_n 0, 1) := by decide +kernel
theorem dX12_stands_95 : decode cX12_stands 95 = .ok (.getfield 85, 3) := by decide +kernel
theorem dX12_stands_98 : decode cX12_stands 98 = .ok (.iload_n 1, 1) := by decide +kernel
theorem dX12_stands_99 : decode cX12_stands 99 = .ok (.iaload, 1) := by decide +kernel
theorem dX12_stands_100 : decode cX12_stands 100 = .ok (.iastore, 1) := by decide +kernel
theorem dX12_stands_101 : decode cX12_stands 101 = .ok (.iinc 1 1, 3) := by decide +kernel
theorem dX12_stands_104 : decode cX12_stands 104 = .ok (.goto (-54), 3) := by decide +kernel
theorem dX12_stands_107 : decode cX12_stands 107 = .ok (.iconst 0, 1) := by decide +kernel
theorem dX12_stands_108 : decode cX12_stands 108 = .ok (.istore_n 1, 1) := by decide +kernel
theorem dX12_stands_109 : decode cX12_stands 109 = .ok (.iload_n 1, 1) := by decide +kernel
theorem dX12_stands_110 : decode cX12_stands 110 = .ok (.aload_n 0, 1) := by decide +kernel
theorem dX12_stands_111 : decode cX12_stands 111 = .ok (.getfield 88, 3) := by decide +kernel
theorem dX12_stands_114 : decode cX12_stands 114 = .ok (.iconst 0, 1) := by decide +kernel
theorem dX12_stands_115 : decode cX12_stands 115 = .ok (.iaload, 1) := by decide +kernel
theorem dX12_stands_116 : decode cX12_stands 116 = .ok (.if_icmp .ge 69, 3) := by decide +kernel
theorem dX12_stands_119 : decode cX12_stands 119 = .ok (.aload_n 0, 1) := by decide +kernel
theorem dX12_stands_120 : decode cX12_stands 120 = .ok (.getfield 91, 3) := by decide +kernel
theorem dX12_stands_123 : decode cX12_stands 123 = .ok (.bipush 20, 2) := by decide +kernel
theorem dX12_stands_125 : decode cX12_stands 125 = .ok (.iload_n 1, 1) := by decide +kernel
theorem dX12_stands_126 : decode cX12_stands 126 = .ok (.iadd, 1) := by decide +kernel
theorem dX12_stands_127 : decode cX12_stands 127 = .ok (.aload_n 0, 1) := by decide +kernel
theorem dX12_stands_128 : decode cX12_stands 128 = .ok (.getfield 91, 3) := by decide +kernel
theorem dX12_stands_131 : decode cX12_stands 131 = .ok (.iload_n 1, 1) := by decide +kernel
theorem dX12_stands_132 : decode cX12_stands 132 = .ok (.iaload, 1) := by decide +kernel
theorem dX12_stands_133 : decode cX12_stands 133 = .ok (.iastore, 1) := by decide +kernel
theorem dX12_stands_134 : decode cX12_stands 134 = .ok (.aload_n 0, 1) := by decide +kernel
theorem dX12_stands_135 : decode cX12_stands 135 = .ok (.getfield 94, 3) := by decide +kernel
theorem dX12_stands_138 : decode cX12_stands 138 = .ok (.bipush 20, 2) := by decide +kernel
theorem dX12_stands_140 : decode cX12_stands 140 = .ok (.iload_n 1, 1) := by decide +kernel
theorem dX12_stands_141 : decode cX12_stands 141 = .ok (.iadd, 1) := by decide +kernel
theorem dX12_stands_142 : decode cX12_stands 142 = .ok (.aload_n 0, 1) := by decide +kernel
theorem dX12_stands_143 : decode cX12_stands 143 = .ok (.getfield 94, 3) := by decide +kernel
theorem dX12_stands_146 : decode cX12_stands 146 = .ok (.iload_n 1, 1) := by decide +kernel
theorem dX12_stands_147 : decode cX12_stands 147 = .ok (.iaload, 1) := by decide +kernel
theorem dX12_stands_148 : decode cX12_stands 148 = .ok (.iastore, 1) := by decide +kernel
theorem dX12_stands_149 : decode cX12_stands 149 = .ok (.aload_n 0, 1) := by decide +kernel
theorem dX12_stands_150 : decode cX12_stands 150 = .ok (.getfield 97, 3) := by decide +kernel
theorem dX12_stands_153 : decode cX12_stands 153 = .ok (.bipush 20, 2) := by decide +kernel
theorem dX12_stands_155 : decode cX12_stands 155 = .ok (.iload_n 1, 1) := by decide +kernel
theorem dX12_stands_156 : decode cX12_stands 156 = .ok (.iadd, 1) := by decide +kernel
theorem dX12_stands_157 : decode cX12_stands 157 = .ok (.aload_n 0, 1) := by decide +kernel
theorem dX12_stands_158 : decode cX12_stands 158 = .ok (.getfield 97, 3) := by decide +kernel
theorem dX12_stands_161 : decode cX12_stands 161 = .ok (.iload_n 1, 1) := by decide +kernel
theorem dX12_stands_162 : decode cX12_stands 162 = .ok (.iaload, 1) := by decide +kernel
theorem dX12_stands_163 : decode cX12_stands 163 = .ok (.iastore, 1) := by decide +kernel
theorem dX12_stands_164 : decode cX12_stands 164 = .ok (.aload_n 0, 1) := by decide +kernel
theorem dX12_stands_165 : decode cX12_stands 165 = .ok (.getfield 100, 3) := by decide +kernel
theorem dX12_stands_168 : decode cX12_stands 168 = .ok (.bipush 20, 2) := by decide +kernel
theorem dX12_stands_170 : decode cX12_stands 170 = .ok (.iload_n 1, 1) := by decide +kernel
theorem dX12_stands_171 : decode cX12_stands 171 = .ok (.iadd, 1) := by decide +kernel
theorem dX12_stands_172 : decode cX12_stands 172 = .ok (.aload_n 0, 1) := by decide +kernel
theorem dX12_stands_173 : decode cX12_stands 173 = .ok (.getfield 100, 3) := by decide +kernel
theorem dX12_stands_176 : decode cX12_stands 176 = .ok (.iload_n 1, 1) := by decide +kernel
theorem dX12_stands_177 : decode cX12_stands 177 = .ok (.iaload, 1) := by decide +kernel
theorem dX12_stands_178 : decode cX12_stands 178 = .ok (.iastore, 1) := by decide +kernel
theorem dX12_stands_179 : decode cX12_stands 179 = .ok (.iinc 1 1, 3) := by decide +kernel
theorem dX12_stands_182 : decode cX12_stands 182 = .ok (.goto (-73), 3) := by decide +kernel
theorem dX12_stands_185 : decode cX12_stands 185 = .ok (.iconst 0, 1) := by decide +kernel
theorem dX12_stands_186 : decode cX12_stands 186 = .ok (.istore_n 1, 1) := by decide +kernel
theorem dX12_stands_187 : decode cX12_stands 187 = .ok (.iload_n 1, 1) := by decide +kernel
theorem dX12_stands_188 : decode cX12_stands 188 = .ok (.aload_n 0, 1) := by decide +kernel
theorem dX12_stands_189 : decode cX12_stands 189 = .ok (.getfield 229, 3) := by decide +kernel
theorem dX12_stands_192 : decode cX12_stands 192 = .ok (.if_icmp .ge 25, 3) := by decide +kernel
theorem dX12_stands_195 : decode cX12_stands 195 = .ok (.aload_n 0, 1) := by decide +kernel
theorem dX12_stands_196 : decode cX12_stands 196 = .ok (.getfield 109, 3) := by decide +kernel
theorem dX12_stands_199 : decode cX12_stands 199 = .ok (.sipush 900, 3) := by decide +kernel
theorem dX12_stands_202 : decode cX12_stands 202 = .ok (.iload_n 1, 1) := by decide +kernel
theorem dX12_stands_203 : decode cX12_stands 203 = .ok (.iadd, 1) := by decide +kernel
theorem dX12_stands_204 : decode cX12_stands 204 = .ok (.aload_n 0, 1) := by decide +kernel
theorem dX12_stands_205 : decode cX12_stands 205 = .ok (.getfield 109, 3) := by decide +kernel
theorem dX12_stands_208 : decode cX12_stands 208 = .ok (.iload_n 1, 1) := by decide +kernel
theorem dX12_stands_209 : decode cX12_stands 209 = .ok (.iaload, 1) := by decide +kernel
theorem dX12_stands_210 : decode cX12_stands 210 = .ok (.iastore, 1) := by decide +kernel
theorem dX12_stands_211 : decode cX12_stands 211 = .ok (.iinc 1 1, 3) := by decide +kernel
theorem dX12_stands_214 : decode cX12_stands 214 = .ok (.goto (-27), 3) := by decide +kernel
theorem dX12_stands_217 : decode cX12_stands 217 = .ok (.return_, 1) := by decide +kernel
theorem dX12_fault_0 : decode cX12_fault 0 = .ok (.iload_n 1, 1) := by decide +kernel
theorem dX12_fault_1 : decode cX12_fault 1 = .ok (.ifCond .ne 10, 3) := by decide +kernel
theorem dX12_fault_4 : decode cX12_fault 4 = .ok (.aload_n 0, 1) := by decide +kernel
theorem dX12_fault_5 : decode cX12_fault 5 = .ok (.getfield 317, 3) := by decide +kernel
theorem dX12_fault_8 : decode cX12_fault 8 = .ok (.goto 16, 3) := by decide +kernel
theorem dX12_fault_11 : decode cX12_fault 11 = .ok (.iload_n 1, 1) := by decide +kernel
theorem dX12_fault_12 : decode cX12_fault 12 = .ok (.iconst 1, 1) := by decide +kernel
theorem dX12_fault_13 : decode cX12_fault 13 = .ok (.if_icmp .ne 10, 3) := by decide +kernel
theorem dX12_fault_16 : decode cX12_fault 16 = .ok (.aload_n 0, 1) := by decide +kernel
theorem dX12_fault_17 : decode cX12_fault 17 = .ok (.getfield 13, 3) := by decide +kernel
theorem dX12_fault_20 : decode cX12_fault 20 = .ok (.goto 4, 3) := by decide +kernel
theorem dX12_fault_23 : decode cX12_fault 23 = .ok (.iconst (-1), 1) := by decide +kernel
theorem dX12_fault_24 : decode cX12_fault 24 = .ok (.ireturn, 1) := by decide +kernel
theorem dX12_many_0 : decode cX12_many 0 = .ok (.aload_n 0, 1) := by decide +kernel
theorem dX12_many_1 : decode cX12_many 1 = .ok (.getfield 75, 3) := by decide +kernel
theorem dX12_many_4 : decode cX12_many 4 = .ok (.iconst 1, 1) := by decide +kernel
theorem dX12_many_5 : decode cX12_many 5 = .ok (.iaload, 1) := by decide +kernel
theorem dX12_many_6 : decode cX12_many 6 = .ok (.ireturn, 1) := by decide +kernel
theorem dX12_pairs_0 : decode cX12_pairs 0 = .ok (.aload_n 0, 1) := by decide +kernel
theorem dX12_pairs_1 : decode cX12_pairs 1 = .ok (.invokevirtual 345, 3) := by decide +kernel
theorem dX12_pairs_4 : decode cX12_pairs 4 = .ok (.aload_n 0, 1) := by decide +kernel
theorem dX12_pairs_5 : decode cX12_pairs 5 = .ok (.invokevirtual 345, 3) := by decide +kernel
theorem dX12_pairs_8 : decode cX12_pairs 8 = .ok (.iconst 1, 1) := by decide +kernel
theorem dX12_pairs_9 : decode cX12_pairs 9 = .ok (.isub, 1) := by decide +kernel
theorem dX12_pairs_10 : decode cX12_pairs 10 = .ok (.imul, 1) := by decide +kernel
theorem dX12_pairs_11 : decode cX12_pairs 11 = .ok (.iconst 2, 1) := by decide +kernel
theorem dX12_pairs_12 : decode cX12_pairs 12 = .ok (.idiv, 1) := by decide +kernel
theorem dX12_pairs_13 : decode cX12_pairs 13 = .ok (.ireturn, 1) := by decide +kernel
theorem dX12_isPerson_0 : decode cX12_isPerson 0 = .ok (.iload_n 1, 1) := by decide +kernel
theorem dX12_isPerson_1 : decode cX12_isPerson 1 = .ok (.i2l, 1) := by decide +kernel
theorem dX12_isPerson_2 : decode cX12_isPerson 2 = .ok (.lconst 0, 1) := by decide +kernel
theorem dX12_isPerson_3 : decode cX12_isPerson 3 = .ok (.aload_n 0, 1) := by decide +kernel
theorem dX12_isPerson_4 : decode cX12_isPerson 4 = .ok (.invokevirtual 345, 3) := by decide +kernel
theorem dX12_isPerson_7 : decode cX12_isPerson 7 = .ok (.iconst 1, 1) := by decide +kernel
theorem dX12_isPerson_8 : decode cX12_isPerson 8 = .ok (.isub, 1) := by decide +kernel
theorem dX12_isPerson_9 : decode cX12_isPerson 9 = .ok (.i2l, 1) := by decide +kernel
theorem dX12_isPerson_10 : decode cX12_isPerson 10 = .ok (.invokestatic 206, 3) := by decide +kernel
theorem dX12_isPerson_13 : decode cX12_isPerson 13 = .ok (.ireturn, 1) := by decide +kernel
theorem dX12_pairOf_0 : decode cX12_pairOf 0 = .ok (.iload_n 0, 1) := by decide +kernel
theorem dX12_pairOf_1 : decode cX12_pairOf 1 = .ok (.iload_n 1, 1) := by decide +kernel
theorem dX12_pairOf_2 : decode cX12_pairOf 2 = .ok (.if_icmp .ge 7, 3) := by decide +kernel
theorem dX12_pairOf_5 : decode cX12_pairOf 5 = .ok (.iload_n 0, 1) := by decide +kernel
theorem dX12_pairOf_6 : decode cX12_pairOf 6 = .ok (.goto 4, 3) := by decide +kernel
theorem dX12_pairOf_9 : decode cX12_pairOf 9 = .ok (.iload_n 1, 1) := by decide +kernel
theorem dX12_pairOf_10 : decode cX12_pairOf 10 = .ok (.istore_n 2, 1) := by decide +kernel
theorem dX12_pairOf_11 : decode cX12_pairOf 11 = .ok (.iload_n 0, 1) := by decide +kernel
theorem dX12_pairOf_12 : decode cX12_pairOf 12 = .ok (.iload_n 1, 1) := by decide +kernel
theorem dX12_pairOf_13 : decode cX12_pairOf 13 = .ok (.if_icmp .ge 7, 3) := by decide +kernel
theorem dX12_pairOf_16 : decode cX12_pairOf 16 = .ok (.iload_n 1, 1) := by decide +kernel
theorem dX12_pairOf_17 : decode cX12_pairOf 17 = .ok (.goto 4, 3) := by decide +kernel
theorem dX12_pairOf_20 : decode cX12_pairOf 20 = .ok (.iload_n 0, 1) := by decide +kernel
theorem dX12_pairOf_21 : decode cX12_pairOf 21 = .ok (.istore_n 3, 1) := by decide +kernel
theorem dX12_pairOf_22 : decode cX12_pairOf 22 = .ok (.iload_n 3, 1) := by decide +kernel
theorem dX12_pairOf_23 : decode cX12_pairOf 23 = .ok (.iload_n 3, 1) := by decide +kernel
theorem dX12_pairOf_24 : decode cX12_pairOf 24 = .ok (.iconst 1, 1) := by decide +kernel
theorem dX12_pairOf_25 : decode cX12_pairOf 25 = .ok (.isub, 1) := by decide +kernel
theorem dX12_pairOf_26 : decode cX12_pairOf 26 = .ok (.imul, 1) := by decide +kernel
theorem dX12_pairOf_27 : decode cX12_pairOf 27 = .ok (.iconst 2, 1) := by decide +kernel
theorem dX12_pairOf_28 : decode cX12_pairOf 28 = .ok (.idiv, 1) := by decide +kernel
theorem dX12_pairOf_29 : decode cX12_pairOf 29 = .ok (.iload_n 2, 1) := by decide +kernel
theorem dX12_pairOf_30 : decode cX12_pairOf 30 = .ok (.iadd, 1) := by decide +kernel
theorem dX12_pairOf_31 : decode cX12_pairOf 31 = .ok (.ireturn, 1) := by decide +kernel
theorem dX12_highOf_0 : decode cX12_highOf 0 = .ok (.iconst 1, 1) := by decide +kernel
theorem dX12_highOf_1 : decode cX12_highOf 1 = .ok (.istore_n 1, 1) := by decide +kernel
theorem dX12_highOf_2 : decode cX12_highOf 2 = .ok (.iload_n 1, 1) := by decide +kernel
theorem dX12_highOf_3 : decode cX12_highOf 3 = .ok (.iload_n 1, 1) := by decide +kernel
theorem dX12_highOf_4 : decode cX12_highOf 4 = .ok (.iconst 1, 1) := by decide +kernel
theorem dX12_highOf_5 : decode cX12_highOf 5 = .ok (.iadd, 1) := by decide +kernel
theorem dX12_highOf_6 : decode cX12_highOf 6 = .ok (.imul, 1) := by decide +kernel
theorem dX12_highOf_7 : decode cX12_highOf 7 = .ok (.iconst 2, 1) := by decide +kernel
theorem dX12_highOf_8 : decode cX12_highOf 8 = .ok (.idiv, 1) := by decide +kernel
theorem dX12_highOf_9 : decode cX12_highOf 9 = .ok (.iload_n 0, 1) := by decide +kernel
theorem dX12_highOf_10 : decode cX12_highOf 10 = .ok (.if_icmp .gt 9, 3) := by decide +kernel
theorem dX12_highOf_13 : decode cX12_highOf 13 = .ok (.iinc 1 1, 3) := by decide +kernel
theorem dX12_highOf_16 : decode cX12_highOf 16 = .ok (.goto (-14), 3) := by decide +kernel
theorem dX12_highOf_19 : decode cX12_highOf 19 = .ok (.iload_n 1, 1) := by decide +kernel
theorem dX12_highOf_20 : decode cX12_highOf 20 = .ok (.ireturn, 1) := by decide +kernel
theorem dX12_lowOf_0 : decode cX12_lowOf 0 = .ok (.iload_n 0, 1) := by decide +kernel
theorem dX12_lowOf_1 : decode cX12_lowOf 1 = .ok (.invokestatic 348, 3) := by decide +kernel
theorem dX12_lowOf_4 : decode cX12_lowOf 4 = .ok (.istore_n 1, 1) := by decide +kernel
theorem dX12_lowOf_5 : decode cX12_lowOf 5 = .ok (.iload_n 0, 1) := by decide +kernel
theorem dX12_lowOf_6 : decode cX12_lowOf 6 = .ok (.iload_n 1, 1) := by decide +kernel
theorem dX12_lowOf_7 : decode cX12_lowOf 7 = .ok (.iload_n 1, 1) := by decide +kernel
theorem dX12_lowOf_8 : decode cX12_lowOf 8 = .ok (.iconst 1, 1) := by decide +kernel
theorem dX12_lowOf_9 : decode cX12_lowOf 9 = .ok (.isub, 1) := by decide +kernel
theorem dX12_lowOf_10 : decode cX12_lowOf 10 = .ok (.imul, 1) := by decide +kernel
theorem dX12_lowOf_11 : decode cX12_lowOf 11 = .ok (.iconst 2, 1) := by decide +kernel
theorem dX12_lowOf_12 : decode cX12_lowOf 12 = .ok (.idiv, 1) := by decide +kernel
theorem dX12_lowOf_13 : decode cX12_lowOf 13 = .ok (.isub, 1) := by decide +kernel
theorem dX12_lowOf_14 : decode cX12_lowOf 14 = .ok (.ireturn, 1) := by decide +kernel
theorem dX12_isTied_0 : decode cX12_isTied 0 = .ok (.lload_n 0, 1) := by decide +kernel
theorem dX12_isTied_1 : decode cX12_isTied 1 = .ok (.iload_n 2, 1) := by decide +kernel
theorem dX12_isTied_2 : decode cX12_isTied 2 = .ok (.lshr, 1) := by decide +kernel
theorem dX12_isTied_3 : decode cX12_isTied 3 = .ok (.lconst 1, 1) := by decide +kernel
theorem dX12_isTied_4 : decode cX12_isTied 4 = .ok (.land, 1) := by decide +kernel
theorem dX12_isTied_5 : decode cX12_isTied 5 = .ok (.lconst 1, 1) := by decide +kernel
theorem dX12_isTied_6 : decode cX12_isTied 6 = .ok (.lcmp, 1) := by decide +kernel
theorem dX12_isTied_7 : decode cX12_isTied 7 = .ok (.ifCond .ne 7, 3) := by decide +kernel
theorem dX12_isTied_10 : decode cX12_isTied 10 = .ok (.iconst 1, 1) := by decide +kernel
theorem dX12_isTied_11 : decode cX12_isTied 11 = .ok (.goto 4, 3) := by decide +kernel
theorem dX12_isTied_14 : decode cX12_isTied 14 = .ok (.iconst 0, 1) := by decide +kernel
theorem dX12_isTied_15 : decode cX12_isTied 15 = .ok (.ireturn, 1) := by decide +kernel
theorem dX12_tiesOf_0 : decode cX12_tiesOf 0 = .ok (.iconst 0, 1) := by decide +kernel
theorem dX12_tiesOf_1 : decode cX12_tiesOf 1 = .ok (.istore 4, 2) := by decide +kernel
theorem dX12_tiesOf_3 : decode cX12_tiesOf 3 = .ok (.iconst 0, 1) := by decide +kernel
theorem dX12_tiesOf_4 : decode cX12_tiesOf 4 = .ok (.istore 5, 2) := by decide +kernel
theorem dX12_tiesOf_6 : decode cX12_tiesOf 6 = .ok (.iload 5, 2) := by decide +kernel
theorem dX12_tiesOf_8 : decode cX12_tiesOf 8 = .ok (.aload_n 0, 1) := by decide +kernel
theorem dX12_tiesOf_9 : decode cX12_tiesOf 9 = .ok (.invokevirtual 345, 3) := by decide +kernel
theorem dX12_tiesOf_12 : decode cX12_tiesOf 12 = .ok (.if_icmp .ge 31, 3) := by decide +kernel
theorem dX12_tiesOf_15 : decode cX12_tiesOf 15 = .ok (.iload 5, 2) := by decide +kernel
theorem dX12_tiesOf_17 : decode cX12_tiesOf 17 = .ok (.iload_n 3, 1) := by decide +kernel
theorem dX12_tiesOf_18 : decode cX12_tiesOf 18 = .ok (.if_icmp .eq 19, 3) := by decide +kernel
theorem dX12_tiesOf_21 : decode cX12_tiesOf 21 = .ok (.lload_n 1, 1) := by decide +kernel
theorem dX12_tiesOf_22 : decode cX12_tiesOf 22 = .ok (.iload_n 3, 1) := by decide +kernel
theorem dX12_tiesOf_23 : decode cX12_tiesOf 23 = .ok (.iload 5, 2) := by decide +kernel
theorem dX12_tiesOf_25 : decode cX12_tiesOf 25 = .ok (.invokestatic 308, 3) := by decide +kernel
theorem dX12_tiesOf_28 : decode cX12_tiesOf 28 = .ok (.invokestatic 351, 3) := by decide +kernel
theorem dX12_tiesOf_31 : decode cX12_tiesOf 31 = .ok (.ifCond .eq 6, 3) := by decide +kernel
theorem dX12_tiesOf_34 : decode cX12_tiesOf 34 = .ok (.iinc 4 1, 3) := by decide +kernel
theorem dX12_tiesOf_37 : decode cX12_tiesOf 37 = .ok (.iinc 5 1, 3) := by decide +kernel
theorem dX12_tiesOf_40 : decode cX12_tiesOf 40 = .ok (.goto (-34), 3) := by decide +kernel
theorem dX12_tiesOf_43 : decode cX12_tiesOf 43 = .ok (.iload 4, 2) := by decide +kernel
theorem dX12_tiesOf_45 : decode cX12_tiesOf 45 = .ok (.ireturn, 1) := by decide +kernel
theorem dX12_may_0 : decode cX12_may 0 = .ok (.lload_n 1, 1) := by decide +kernel
theorem dX12_may_1 : decode cX12_may 1 = .ok (.lconst 0, 1) := by decide +kernel
theorem dX12_may_2 : decode cX12_may 2 = .ok (.lcmp, 1) := by decide +kernel
theorem dX12_may_3 : decode cX12_may 3 = .ok (.ifCond .lt 27, 3) := by decide +kernel
theorem dX12_may_6 : decode cX12_may 6 = .ok (.lload_n 1, 1) := by decide +kernel
theorem dX12_may_7 : decode cX12_may 7 = .ok (.aload_n 0, 1) := by decide +kernel
theorem dX12_may_8 : decode cX12_may 8 = .ok (.invokevirtual 355, 3) := by decide +kernel
theorem dX12_may_11 : decode cX12_may 11 = .ok (.lshr, 1) := by decide +kernel
theorem dX12_may_12 : decode cX12_may 12 = .ok (.lconst 0, 1) := by decide +kernel
theorem dX12_may_13 : decode cX12_may 13 = .ok (.lcmp, 1) := by decide +kernel
theorem dX12_may_14 : decode cX12_may 14 = .ok (.ifCond .ne 16, 3) := by decide +kernel
theorem dX12_may_17 : decode cX12_may 17 = .ok (.lload_n 1, 1) := by decide +kernel
theorem dX12_may_18 : decode cX12_may 18 = .ok (.aload_n 0, 1) := by decide +kernel
theorem dX12_may_19 : decode cX12_may 19 = .ok (.getfield 106, 3) := by decide +kernel
theorem dX12_may_22 : decode cX12_may 22 = .ok (.iconst 1, 1) := by decide +kernel
theorem dX12_may_23 : decode cX12_may 23 = .ok (.laload, 1) := by decide +kernel
theorem dX12_may_24 : decode cX12_may 24 = .ok (.land, 1) := by decide +kernel
theorem dX12_may_25 : decode cX12_may 25 = .ok (.lconst 0, 1) := by decide +kernel
theorem dX12_may_26 : decode cX12_may 26 = .ok (.lcmp, 1) := by decide +kernel
theorem dX12_may_27 : decode cX12_may 27 = .ok (.ifCond .eq 5, 3) := by decide +kernel
theorem dX12_may_30 : decode cX12_may 30 = .ok (.iconst 0, 1) := by decide +kernel
theorem dX12_may_31 : decode cX12_may 31 = .ok (.ireturn, 1) := by decide +kernel
theorem dX12_may_32 : decode cX12_may 32 = .ok (.iconst 0, 1) := by decide +kernel
theorem dX12_may_33 : decode cX12_may 33 = .ok (.istore_n 3, 1) := by decide +kernel
theorem dX12_may_34 : decode cX12_may 34 = .ok (.iload_n 3, 1) := by decide +kernel
theorem dX12_may_35 : decode cX12_may 35 = .ok (.aload_n 0, 1) := by decide +kernel
theorem dX12_may_36 : decode cX12_may 36 = .ok (.invokevirtual 345, 3) := by decide +kernel
theorem dX12_may_39 : decode cX12_may 39 = .ok (.if_icmp .ge 29, 3) := by decide +kernel
theorem dX12_may_42 : decode cX12_may 42 = .ok (.aload_n 0, 1) := by decide +kernel
theorem dX12_may_43 : decode cX12_may 43 = .ok (.lload_n 1, 1) := by decide +kernel
theorem dX12_may_44 : decode cX12_may 44 = .ok (.iload_n 3, 1) := by decide +kernel
theorem dX12_may_45 : decode cX12_may 45 = .ok (.invokevirtual 358, 3) := by decide +kernel
theorem dX12_may_48 : decode cX12_may 48 = .ok (.aload_n 0, 1) := by decide +kernel
theorem dX12_may_49 : decode cX12_may 49 = .ok (.getfield 85, 3) := by decide +kernel
theorem dX12_may_52 : decode cX12_may 52 = .ok (.bipush 10, 2) := by decide +kernel
theorem dX12_may_54 : decode cX12_may 54 = .ok (.iload_n 3, 1) := by decide +kernel
theorem dX12_may_55 : decode cX12_may 55 = .ok (.iadd, 1) := by decide +kernel
theorem dX12_may_56 : decode cX12_may 56 = .ok (.iaload, 1) := by decide +kernel
theorem dX12_may_57 : decode cX12_may 57 = .ok (.if_icmp .le 5, 3) := by decide +kernel
theorem dX12_may_60 : decode cX12_may 60 = .ok (.iconst 0, 1) := by decide +kernel
theorem dX12_may_61 : decode cX12_may 61 = .ok (.ireturn, 1) := by decide +kernel
theorem dX12_may_62 : decode cX12_may 62 = .ok (.iinc 3 1, 3) := by decide +kernel
theorem dX12_may_65 : decode cX12_may 65 = .ok (.goto (-31), 3) := by decide +kernel
theorem dX12_may_68 : decode cX12_may 68 = .ok (.iconst 1, 1) := by decide +kernel
theorem dX12_may_69 : decode cX12_may 69 = .ok (.ireturn, 1) := by decide +kernel
theorem dX12_bits_0 : decode cX12_bits 0 = .ok (.iconst 0, 1) := by decide +kernel
theorem dX12_bits_1 : decode cX12_bits 1 = .ok (.istore_n 2, 1) := by decide +kernel
theorem dX12_bits_2 : decode cX12_bits 2 = .ok (.iconst 0, 1) := by decide +kernel
theorem dX12_bits_3 : decode cX12_bits 3 = .ok (.istore_n 3, 1) := by decide +kernel
theorem dX12_bits_4 : decode cX12_bits 4 = .ok (.iload_n 3, 1) := by decide +kernel
theorem dX12_bits_5 : decode cX12_bits 5 = .ok (.bipush 45, 2) := by decide +kernel
theorem dX12_bits_7 : decode cX12_bits 7 = .ok (.if_icmp .ge 18, 3) := by decide +kernel
theorem dX12_bits_10 : decode cX12_bits 10 = .ok (.iload_n 2, 1) := by decide +kernel
theorem dX12_bits_11 : decode cX12_bits 11 = .ok (.lload_n 0, 1) := by decide +kernel
theorem dX12_bits_12 : decode cX12_bits 12 = .ok (.iload_n 3, 1) := by decide +kernel
theorem dX12_bits_13 : decode cX12_bits 13 = .ok (.lshr, 1) := by decide +kernel
theorem dX12_bits_14 : decode cX12_bits 14 = .ok (.lconst 1, 1) := by decide +kernel
theorem dX12_bits_15 : decode cX12_bits 15 = .ok (.land, 1) := by decide +kernel
theorem dX12_bits_16 : decode cX12_bits 16 = .ok (.l2i, 1) := by decide +kernel
theorem dX12_bits_17 : decode cX12_bits 17 = .ok (.iadd, 1) := by decide +kernel
theorem dX12_bits_18 : decode cX12_bits 18 = .ok (.istore_n 2, 1) := by decide +kernel
theorem dX12_bits_19 : decode cX12_bits 19 = .ok (.iinc 3 1, 3) := by decide +kernel
theorem dX12_bits_22 : decode cX12_bits 22 = .ok (.goto (-18), 3) := by decide +kernel
theorem dX12_bits_25 : decode cX12_bits 25 = .ok (.iload_n 2, 1) := by decide +kernel
theorem dX12_bits_26 : decode cX12_bits 26 = .ok (.ireturn, 1) := by decide +kernel
theorem dX12_has_0 : decode cX12_has 0 = .ok (.iconst 0, 1) := by decide +kernel
theorem dX12_has_1 : decode cX12_has 1 = .ok (.istore_n 2, 1) := by decide +kernel
theorem dX12_has_2 : decode cX12_has 2 = .ok (.iload_n 1, 1) := by decide +kernel
theorem dX12_has_3 : decode cX12_has 3 = .ok (.tableswitch 98 0 5 #[37, 42, 47, 47, 85, 90], 37) := by decide +kernel
theorem dX12_has_40 : decode cX12_has 40 = .ok (.aload_n 0, 1) := by decide +kernel
theorem dX12_has_41 : decode cX12_has 41 = .ok (.invokevirtual 345, 3) := by decide +kernel
theorem dX12_has_44 : decode cX12_has 44 = .ok (.ireturn, 1) := by decide +kernel
theorem dX12_has_45 : decode cX12_has 45 = .ok (.aload_n 0, 1) := by decide +kernel
theorem dX12_has_46 : decode cX12_has 46 = .ok (.invokevirtual 355, 3) := by decide +kernel
theorem dX12_has_49 : decode cX12_has 49 = .ok (.ireturn, 1) := by decide +kernel
theorem dX12_has_50 : decode cX12_has 50 = .ok (.iconst 0, 1) := by decide +kernel
theorem dX12_has_51 : decode cX12_has 51 = .ok (.istore_n 3, 1) := by decide +kernel
theorem dX12_has_52 : decode cX12_has 52 = .ok (.iload_n 3, 1) := by decide +kernel
theorem dX12_has_53 : decode cX12_has 53 = .ok (.aload_n 0, 1) := by decide +kernel
theorem dX12_has_54 : decode cX12_has 54 = .ok (.getfield 88, 3) := by decide +kernel
theorem dX12_has_57 : decode cX12_has 57 = .ok (.iconst 1, 1) := by decide +kernel
theorem dX12_has_58 : decode cX12_has 58 = .ok (.iaload, 1) := by decide +kernel
theorem dX12_has_59 : decode cX12_has 59 = .ok (.if_icmp .ge 27, 3) := by decide +kernel
theorem dX12_has_62 : decode cX12_has 62 = .ok (.aload_n 0, 1) := by decide +kernel
theorem dX12_has_63 : decode cX12_has 63 = .ok (.getfield 91, 3) := by decide +kernel
theorem dX12_has_66 : decode cX12_has 66 = .ok (.bipush 20, 2) := by decide +kernel
theorem dX12_has_68 : decode cX12_has 68 = .ok (.iload_n 3, 1) := by decide +kernel
theorem dX12_has_69 : decode cX12_has 69 = .ok (.iadd, 1) := by decide +kernel
theorem dX12_has_70 : decode cX12_has 70 = .ok (.iaload, 1) := by decide +kernel
theorem dX12_has_71 : decode cX12_has 71 = .ok (.iload_n 1, 1) := by decide +kernel
theorem dX12_has_72 : decode cX12_has 72 = .ok (.iconst 2, 1) := by decide +kernel
theorem dX12_has_73 : decode cX12_has 73 = .ok (.isub, 1) := by decide +kernel
theorem dX12_has_74 : decode cX12_has 74 = .ok (.if_icmp .ne 6, 3) := by decide +kernel
theorem dX12_has_77 : decode cX12_has 77 = .ok (.iinc 2 1, 3) := by decide +kernel
theorem dX12_has_80 : decode cX12_has 80 = .ok (.iinc 3 1, 3) := by decide +kernel
theorem dX12_has_83 : decode cX12_has 83 = .ok (.goto (-31), 3) := by decide +kernel
theorem dX12_has_86 : decode cX12_has 86 = .ok (.iload_n 2, 1) := by decide +kernel
theorem dX12_has_87 : decode cX12_has 87 = .ok (.ireturn, 1) := by decide +kernel
theorem dX12_has_88 : decode cX12_has 88 = .ok (.aload_n 0, 1) := by decide +kernel
theorem dX12_has_89 : decode cX12_has 89 = .ok (.getfield 326, 3) := by decide +kernel
theorem dX12_has_92 : decode cX12_has 92 = .ok (.ireturn, 1) := by decide +kernel
theorem dX12_has_93 : decode cX12_has 93 = .ok (.aload_n 0, 1) := by decide +kernel
theorem dX12_has_94 : decode cX12_has 94 = .ok (.getfield 323, 3) := by decide +kernel
theorem dX12_has_97 : decode cX12_has 97 = .ok (.invokestatic 362, 3) := by decide +kernel
theorem dX12_has_100 : decode cX12_has 100 = .ok (.ireturn, 1) := by decide +kernel
theorem dX12_has_101 : decode cX12_has 101 = .ok (.iconst (-1), 1) := by decide +kernel
theorem dX12_has_102 : decode cX12_has 102 = .ok (.ireturn, 1) := by decide +kernel
theorem dX12_letter_0 : decode cX12_letter 0 = .ok (.aload_n 0, 1) := by decide +kernel
theorem dX12_letter_1 : decode cX12_letter 1 = .ok (.iload_n 1, 1) := by decide +kernel
theorem dX12_letter_2 : decode cX12_letter 2 = .ok (.invokevirtual 365, 3) := by decide +kernel
theorem dX12_letter_5 : decode cX12_letter 5 = .ok (.ifCond .eq 15, 3) := by decide +kernel
theorem dX12_letter_8 : decode cX12_letter 8 = .ok (.iload_n 2, 1) := by decide +kernel
theorem dX12_letter_9 : decode cX12_letter 9 = .ok (.i2l, 1) := by decide +kernel
theorem dX12_letter_10 : decode cX12_letter 10 = .ok (.lconst 0, 1) := by decide +kernel
theorem dX12_letter_11 : decode cX12_letter 11 = .ok (.ldc2_w 368, 3) := by decide +kernel
theorem dX12_letter_14 : decode cX12_letter 14 = .ok (.invokestatic 206, 3) := by decide +kernel
theorem dX12_letter_17 : decode cX12_letter 17 = .ok (.ifCond .ne 5, 3) := by decide +kernel
theorem dX12_letter_20 : decode cX12_letter 20 = .ok (.iconst (-1), 1) := by decide +kernel
theorem dX12_letter_21 : decode cX12_letter 21 = .ok (.ireturn, 1) := by decide +kernel
theorem dX12_letter_22 : decode cX12_letter 22 = .ok (.aload_n 0, 1) := by decide +kernel
theorem dX12_letter_23 : decode cX12_letter 23 = .ok (.getfield 78, 3) := by decide +kernel
theorem dX12_letter_26 : decode cX12_letter 26 = .ok (.bipush 10, 2) := by decide +kernel
theorem dX12_letter_28 : decode cX12_letter 28 = .ok (.iload_n 1, 1) := by decide +kernel
theorem dX12_letter_29 : decode cX12_letter 29 = .ok (.iadd, 1) := by decide +kernel
theorem dX12_letter_30 : decode cX12_letter 30 = .ok (.laload, 1) := by decide +kernel
theorem dX12_letter_31 : decode cX12_letter 31 = .ok (.lstore_n 3, 1) := by decide +kernel
theorem dX12_letter_32 : decode cX12_letter 32 = .ok (.iconst 0, 1) := by decide +kernel
theorem dX12_letter_33 : decode cX12_letter 33 = .ok (.istore 5, 2) := by decide +kernel
theorem dX12_letter_35 : decode cX12_letter 35 = .ok (.lload_n 3, 1) := by decide +kernel
theorem dX12_letter_36 : decode cX12_letter 36 = .ok (.lstore 6, 2) := by decide +kernel
theorem dX12_letter_38 : decode cX12_letter 38 = .ok (.lload 6, 2) := by decide +kernel
theorem dX12_letter_40 : decode cX12_letter 40 = .ok (.lconst 0, 1) := by decide +kernel
theorem dX12_letter_41 : decode cX12_letter 41 = .ok (.lcmp, 1) := by decide +kernel
theorem dX12_letter_42 : decode cX12_letter 42 = .ok (.ifCond .le 17, 3) := by decide +kernel
theorem dX12_letter_45 : decode cX12_letter 45 = .ok (.iinc 5 1, 3) := by decide +kernel
theorem dX12_letter_48 : decode cX12_letter 48 = .ok (.lload 6, 2) := by decide +kernel
theorem dX12_letter_50 : decode cX12_letter 50 = .ok (.ldc2_w 217, 3) := by decide +kernel
theorem dX12_letter_53 : decode cX12_letter 53 = .ok (.ldiv, 1) := by decide +kernel
theorem dX12_letter_54 : decode cX12_letter 54 = .ok (.lstore 6, 2) := by decide +kernel
theorem dX12_letter_56 : decode cX12_letter 56 = .ok (.goto (-18), 3) := by decide +kernel
theorem dX12_letter_59 : decode cX12_letter 59 = .ok (.iload_n 2, 1) := by decide +kernel
theorem dX12_letter_60 : decode cX12_letter 60 = .ok (.iload 5, 2) := by decide +kernel
theorem dX12_letter_62 : decode cX12_letter 62 = .ok (.if_icmp .lt 5, 3) := by decide +kernel
theorem dX12_letter_65 : decode cX12_letter 65 = .ok (.iconst 0, 1) := by decide +kernel
theorem dX12_letter_66 : decode cX12_letter 66 = .ok (.ireturn, 1) := by decide +kernel
theorem dX12_letter_67 : decode cX12_letter 67 = .ok (.iload 5, 2) := by decide +kernel
theorem dX12_letter_69 : decode cX12_letter 69 = .ok (.iconst 1, 1) := by decide +kernel
theorem dX12_letter_70 : decode cX12_letter 70 = .ok (.isub, 1) := by decide +kernel
theorem dX12_letter_71 : decode cX12_letter 71 = .ok (.istore 6, 2) := by decide +kernel
theorem dX12_letter_73 : decode cX12_letter 73 = .ok (.iload 6, 2) := by decide +kernel
theorem dX12_letter_75 : decode cX12_letter 75 = .ok (.iload_n 2, 1) := by decide +kernel
theorem dX12_letter_76 : decode cX12_letter 76 = .ok (.if_icmp .le 15, 3) := by decide +kernel
theorem dX12_letter_79 : decode cX12_letter 79 = .ok (.lload_n 3, 1) := by decide +kernel
theorem dX12_letter_80 : decode cX12_letter 80 = .ok (.ldc2_w 217, 3) := by decide +kernel
theorem dX12_letter_83 : decode cX12_letter 83 = .ok (.ldiv, 1) := by decide +kernel
theorem dX12_letter_84 : decode cX12_letter 84 = .ok (.lstore_n 3, 1) := by decide +kernel
theorem dX12_letter_85 : decode cX12_letter 85 = .ok (.iinc 6 (-1), 3) := by decide +kernel
theorem dX12_letter_88 : decode cX12_letter 88 = .ok (.goto (-15), 3) := by decide +kernel
theorem dX12_letter_91 : decode cX12_letter 91 = .ok (.lload_n 3, 1) := by decide +kernel
theorem dX12_letter_92 : decode cX12_letter 92 = .ok (.ldc2_w 217, 3) := by decide +kernel
theorem dX12_letter_95 : decode cX12_letter 95 = .ok (.lrem, 1) := by decide +kernel
theorem dX12_letter_96 : decode cX12_letter 96 = .ok (.l2i, 1) := by decide +kernel
theorem dX12_letter_97 : decode cX12_letter 97 = .ok (.ireturn, 1) := by decide +kernel
theorem dX12_net_0 : decode cX12_net 0 = .ok (.aload_n 0, 1) := by decide +kernel
theorem dX12_net_1 : decode cX12_net 1 = .ok (.lload_n 1, 1) := by decide +kernel
theorem dX12_net_2 : decode cX12_net 2 = .ok (.invokevirtual 370, 3) := by decide +kernel
theorem dX12_net_5 : decode cX12_net 5 = .ok (.ifCond .ne 5, 3) := by decide +kernel
theorem dX12_net_8 : decode cX12_net 8 = .ok (.iconst 0, 1) := by decide +kernel
theorem dX12_net_9 : decode cX12_net 9 = .ok (.ireturn, 1) := by decide +kernel
theorem dX12_net_10 : decode cX12_net 10 = .ok (.aload_n 0, 1) := by decide +kernel
theorem dX12_net_11 : decode cX12_net 11 = .ok (.lload_n 1, 1) := by decide +kernel
theorem dX12_net_12 : decode cX12_net 12 = .ok (.putfield 323, 3) := by decide +kernel
theorem dX12_net_15 : decode cX12_net 15 = .ok (.iconst 1, 1) := by decide +kernel
theorem dX12_net_16 : decode cX12_net 16 = .ok (.ireturn, 1) := by decide +kernel
theorem dX12_net__0 : decode cX12_net_ 0 = .ok (.aload_n 0, 1) := by decide +kernel
theorem dX12_net__1 : decode cX12_net_ 1 = .ok (.getfield 323, 3) := by decide +kernel
theorem dX12_net__4 : decode cX12_net_ 4 = .ok (.lreturn, 1) := by decide +kernel
theorem dX12_tied_0 : decode cX12_tied 0 = .ok (.lconst 1, 1) := by decide +kernel
theorem dX12_tied_1 : decode cX12_tied 1 = .ok (.iload_n 1, 1) := by decide +kernel
theorem dX12_tied_2 : decode cX12_tied 2 = .ok (.iload_n 2, 1) := by decide +kernel
theorem dX12_tied_3 : decode cX12_tied 3 = .ok (.invokestatic 308, 3) := by decide +kernel
theorem dX12_tied_6 : decode cX12_tied 6 = .ok (.lshl, 1) := by decide +kernel
theorem dX12_tied_7 : decode cX12_tied 7 = .ok (.lreturn, 1) := by decide +kernel
theorem dX12_ringBut_0 : decode cX12_ringBut 0 = .ok (.lconst 0, 1) := by decide +kernel
theorem dX12_ringBut_1 : decode cX12_ringBut 1 = .ok (.lstore_n 2, 1) := by decide +kernel
theorem dX12_ringBut_2 : decode cX12_ringBut 2 = .ok (.iconst (-1), 1) := by decide +kernel
theorem dX12_ringBut_3 : decode cX12_ringBut 3 = .ok (.istore 4, 2) := by decide +kernel
theorem dX12_ringBut_5 : decode cX12_ringBut 5 = .ok (.iconst (-1), 1) := by decide +kernel
theorem dX12_ringBut_6 : decode cX12_ringBut 6 = .ok (.istore 5, 2) := by decide +kernel
theorem dX12_ringBut_8 : decode cX12_ringBut 8 = .ok (.iconst 0, 1) := by decide +kernel
theorem dX12_ringBut_9 : decode cX12_ringBut 9 = .ok (.istore 6, 2) := by decide +kernel
theorem dX12_ringBut_11 : decode cX12_ringBut 11 = .ok (.iload 6, 2) := by decide +kernel
theorem dX12_ringBut_13 : decode cX12_ringBut 13 = .ok (.aload_n 0, 1) := by decide +kernel
theorem dX12_ringBut_14 : decode cX12_ringBut 14 = .ok (.invokevirtual 345, 3) := by decide +kernel
theorem dX12_ringBut_17 : decode cX12_ringBut 17 = .ok (.if_icmp .ge 46, 3) := by decide +kernel
theorem dX12_ringBut_20 : decode cX12_ringBut 20 = .ok (.iload 6, 2) := by decide +kernel
theorem dX12_ringBut_22 : decode cX12_ringBut 22 = .ok (.iload_n 1, 1) := by decide +kernel
theorem dX12_ringBut_23 : decode cX12_ringBut 23 = .ok (.if_icmp .ne 6, 3) := by decide +kernel
theorem dX12_ringBut_26 : decode cX12_ringBut 26 = .ok (.goto 31, 3) := by decide +kernel
theorem dX12_ringBut_29 : decode cX12_ringBut 29 = .ok (.iload 4, 2) := by decide +kernel
theorem dX12_ringBut_31 : decode cX12_ringBut 31 = .ok (.iconst (-1), 1) := by decide +kernel
theorem dX12_ringBut_32 : decode cX12_ringBut 32 = .ok (.if_icmp .ne 10, 3) := by decide +kernel
theorem dX12_ringBut_35 : decode cX12_ringBut 35 = .ok (.iload 6, 2) := by decide +kernel
theorem dX12_ringBut_37 : decode cX12_ringBut 37 = .ok (.istore 4, 2) := by decide +kernel
theorem dX12_ringBut_39 : decode cX12_ringBut 39 = .ok (.goto 14, 3) := by decide +kernel
theorem dX12_ringBut_42 : decode cX12_ringBut 42 = .ok (.lload_n 2, 1) := by decide +kernel
theorem dX12_ringBut_43 : decode cX12_ringBut 43 = .ok (.aload_n 0, 1) := by decide +kernel
theorem dX12_ringBut_44 : decode cX12_ringBut 44 = .ok (.iload 5, 2) := by decide +kernel
theorem dX12_ringBut_46 : decode cX12_ringBut 46 = .ok (.iload 6, 2) := by decide +kernel
theorem dX12_ringBut_48 : decode cX12_ringBut 48 = .ok (.invokevirtual 374, 3) := by decide +kernel
theorem dX12_ringBut_51 : decode cX12_ringBut 51 = .ok (.lor, 1) := by decide +kernel
theorem dX12_ringBut_52 : decode cX12_ringBut 52 = .ok (.lstore_n 2, 1) := by decide +kernel
theorem dX12_ringBut_53 : decode cX12_ringBut 53 = .ok (.iload 6, 2) := by decide +kernel
theorem dX12_ringBut_55 : decode cX12_ringBut 55 = .ok (.istore 5, 2) := by decide +kernel
theorem dX12_ringBut_57 : decode cX12_ringBut 57 = .ok (.iinc 6 1, 3) := by decide +kernel
theorem dX12_ringBut_60 : decode cX12_ringBut 60 = .ok (.goto (-49), 3) := by decide +kernel
theorem dX12_ringBut_63 : decode cX12_ringBut 63 = .ok (.lload_n 2, 1) := by decide +kernel
theorem dX12_ringBut_64 : decode cX12_ringBut 64 = .ok (.aload_n 0, 1) := by decide +kernel
theorem dX12_ringBut_65 : decode cX12_ringBut 65 = .ok (.iload 4, 2) := by decide +kernel
theorem dX12_ringBut_67 : decode cX12_ringBut 67 = .ok (.iload 5, 2) := by decide +kernel
theorem dX12_ringBut_69 : decode cX12_ringBut 69 = .ok (.invokevirtual 374, 3) := by decide +kernel
theorem dX12_ringBut_72 : decode cX12_ringBut 72 = .ok (.lor, 1) := by decide +kernel
theorem dX12_ringBut_73 : decode cX12_ringBut 73 = .ok (.lreturn, 1) := by decide +kernel
theorem dX12_star_0 : decode cX12_star 0 = .ok (.lconst 0, 1) := by decide +kernel
theorem dX12_star_1 : decode cX12_star 1 = .ok (.lstore_n 2, 1) := by decide +kernel
theorem dX12_star_2 : decode cX12_star 2 = .ok (.iconst 0, 1) := by decide +kernel
theorem dX12_star_3 : decode cX12_star 3 = .ok (.istore 4, 2) := by decide +kernel
theorem dX12_star_5 : decode cX12_star 5 = .ok (.iload 4, 2) := by decide +kernel
theorem dX12_star_7 : decode cX12_star 7 = .ok (.aload_n 0, 1) := by decide +kernel
theorem dX12_star_8 : decode cX12_star 8 = .ok (.invokevirtual 345, 3) := by decide +kernel
theorem dX12_star_11 : decode cX12_star 11 = .ok (.if_icmp .ge 25, 3) := by decide +kernel
theorem dX12_star_14 : decode cX12_star 14 = .ok (.iload 4, 2) := by decide +kernel
theorem dX12_star_16 : decode cX12_star 16 = .ok (.iload_n 1, 1) := by decide +kernel
theorem dX12_star_17 : decode cX12_star 17 = .ok (.if_icmp .eq 13, 3) := by decide +kernel
theorem dX12_star_20 : decode cX12_star 20 = .ok (.lload_n 2, 1) := by decide +kernel
theorem dX12_star_21 : decode cX12_star 21 = .ok (.aload_n 0, 1) := by decide +kernel
theorem dX12_star_22 : decode cX12_star 22 = .ok (.iload_n 1, 1) := by decide +kernel
theorem dX12_star_23 : decode cX12_star 23 = .ok (.iload 4, 2) := by decide +kernel
theorem dX12_star_25 : decode cX12_star 25 = .ok (.invokevirtual 374, 3) := by decide +kernel
theorem dX12_star_28 : decode cX12_star 28 = .ok (.lor, 1) := by decide +kernel
theorem dX12_star_29 : decode cX12_star 29 = .ok (.lstore_n 2, 1) := by decide +kernel
theorem dX12_star_30 : decode cX12_star 30 = .ok (.iinc 4 1, 3) := by decide +kernel
theorem dX12_star_33 : decode cX12_star 33 = .ok (.goto (-28), 3) := by decide +kernel
theorem dX12_star_36 : decode cX12_star 36 = .ok (.lload_n 2, 1) := by decide +kernel
theorem dX12_star_37 : decode cX12_star 37 = .ok (.lreturn, 1) := by decide +kernel
theorem dX12_shape_0 : decode cX12_shape 0 = .ok (.aload_n 0, 1) := by decide +kernel
theorem dX12_shape_1 : decode cX12_shape 1 = .ok (.invokevirtual 345, 3) := by decide +kernel
theorem dX12_shape_4 : decode cX12_shape 4 = .ok (.istore_n 3, 1) := by decide +kernel
theorem dX12_shape_5 : decode cX12_shape 5 = .ok (.lconst 0, 1) := by decide +kernel
theorem dX12_shape_6 : decode cX12_shape 6 = .ok (.lstore 4, 2) := by decide +kernel
theorem dX12_shape_8 : decode cX12_shape 8 = .ok (.iload_n 1, 1) := by decide +kernel
theorem dX12_shape_9 : decode cX12_shape 9 = .ok (.tableswitch 241 0 6 #[43, 45, 54, 74, 107, 124, 210], 43) := by decide +kernel
theorem dX12_shape_52 : decode cX12_shape 52 = .ok (.lconst 0, 1) := by decide +kernel
theorem dX12_shape_53 : decode cX12_shape 53 = .ok (.lreturn, 1) := by decide +kernel
theorem dX12_shape_54 : decode cX12_shape 54 = .ok (.lconst 1, 1) := by decide +kernel
theorem dX12_shape_55 : decode cX12_shape 55 = .ok (.aload_n 0, 1) := by decide +kernel
theorem dX12_shape_56 : decode cX12_shape 56 = .ok (.invokevirtual 355, 3) := by decide +kernel
theorem dX12_shape_59 : decode cX12_shape 59 = .ok (.lshl, 1) := by decide +kernel
theorem dX12_shape_60 : decode cX12_shape 60 = .ok (.lconst 1, 1) := by decide +kernel
theorem dX12_shape_61 : decode cX12_shape 61 = .ok (.lsub, 1) := by decide +kernel
theorem dX12_shape_62 : decode cX12_shape 62 = .ok (.lreturn, 1) := by decide +kernel
theorem dX12_shape_63 : decode cX12_shape 63 = .ok (.aload_n 0, 1) := by decide +kernel
theorem dX12_shape_64 : decode cX12_shape 64 = .ok (.iload_n 2, 1) := by decide +kernel
theorem dX12_shape_65 : decode cX12_shape 65 = .ok (.invokevirtual 365, 3) := by decide +kernel
theorem dX12_shape_68 : decode cX12_shape 68 = .ok (.ifCond .eq 11, 3) := by decide +kernel
theorem dX12_shape_71 : decode cX12_shape 71 = .ok (.aload_n 0, 1) := by decide +kernel
theorem dX12_shape_72 : decode cX12_shape 72 = .ok (.iload_n 2, 1) := by decide +kernel
theorem dX12_shape_73 : decode cX12_shape 73 = .ok (.invokevirtual 378, 3) := by decide +kernel
theorem dX12_shape_76 : decode cX12_shape 76 = .ok (.goto 6, 3) := by decide +kernel
theorem dX12_shape_79 : decode cX12_shape 79 = .ok (.ldc2_w 115, 3) := by decide +kernel
theorem dX12_shape_82 : decode cX12_shape 82 = .ok (.lreturn, 1) := by decide +kernel
theorem dX12_shape_83 : decode cX12_shape 83 = .ok (.iconst 1, 1) := by decide +kernel
theorem dX12_shape_84 : decode cX12_shape 84 = .ok (.istore 6, 2) := by decide +kernel
theorem dX12_shape_86 : decode cX12_shape 86 = .ok (.iload 6, 2) := by decide +kernel
theorem dX12_shape_88 : decode cX12_shape 88 = .ok (.iload_n 3, 1) := by decide +kernel
theorem dX12_shape_89 : decode cX12_shape 89 = .ok (.if_icmp .ge 24, 3) := by decide +kernel
theorem dX12_shape_92 : decode cX12_shape 92 = .ok (.lload 4, 2) := by decide +kernel
theorem dX12_shape_94 : decode cX12_shape 94 = .ok (.aload_n 0, 1) := by decide +kernel
theorem dX12_shape_95 : decode cX12_shape 95 = .ok (.iload 6, 2) := by decide +kernel
theorem dX12_shape_97 : decode cX12_shape 97 = .ok (.iconst 1, 1) := by decide +kernel
theorem dX12_shape_98 : decode cX12_shape 98 = .ok (.isub, 1) := by decide +kernel
theorem dX12_shape_99 : decode cX12_shape 99 = .ok (.iload 6, 2) := by decide +kernel
theorem dX12_shape_101 : decode cX12_shape 101 = .ok (.invokevirtual 374, 3) := by decide +kernel
theorem dX12_shape_104 : decode cX12_shape 104 = .ok (.lor, 1) := by decide +kernel
theorem dX12_shape_105 : decode cX12_shape 105 = .ok (.lstore 4, 2) := by decide +kernel
theorem dX12_shape_107 : decode cX12_shape 107 = .ok (.iinc 6 1, 3) := by decide +kernel
theorem dX12_shape_110 : decode cX12_shape 110 = .ok (.goto (-24), 3) := by decide +kernel
theorem dX12_shape_113 : decode cX12_shape 113 = .ok (.lload 4, 2) := by decide +kernel
theorem dX12_shape_115 : decode cX12_shape 115 = .ok (.lreturn, 1) := by decide +kernel
theorem dX12_shape_116 : decode cX12_shape 116 = .ok (.iload_n 3, 1) := by decide +kernel
theorem dX12_shape_117 : decode cX12_shape 117 = .ok (.iconst 3, 1) := by decide +kernel
theorem dX12_shape_118 : decode cX12_shape 118 = .ok (.if_icmp .ge 9, 3) := by decide +kernel
theorem dX12_shape_121 : decode cX12_shape 121 = .ok (.ldc2_w 115, 3) := by decide +kernel
theorem dX12_shape_124 : decode cX12_shape 124 = .ok (.goto 8, 3) := by decide +kernel
theorem dX12_shape_127 : decode cX12_shape 127 = .ok (.aload_n 0, 1) := by decide +kernel
theorem dX12_shape_128 : decode cX12_shape 128 = .ok (.iconst (-1), 1) := by decide +kernel
theorem dX12_shape_129 : decode cX12_shape 129 = .ok (.invokevirtual 382, 3) := by decide +kernel
theorem dX12_shape_132 : decode cX12_shape 132 = .ok (.lreturn, 1) := by decide +kernel
theorem dX12_shape_133 : decode cX12_shape 133 = .ok (.aload_n 0, 1) := by decide +kernel
theorem dX12_shape_134 : decode cX12_shape 134 = .ok (.iload_n 2, 1) := by decide +kernel
theorem dX12_shape_135 : decode cX12_shape 135 = .ok (.invokevirtual 365, 3) := by decide +kernel
theorem dX12_shape_138 : decode cX12_shape 138 = .ok (.ifCond .ne 7, 3) := by decide +kernel
theorem dX12_shape_141 : decode cX12_shape 141 = .ok (.ldc2_w 115, 3) := by decide +kernel
theorem dX12_shape_144 : decode cX12_shape 144 = .ok (.lreturn, 1) := by decide +kernel
theorem dX12_shape_145 : decode cX12_shape 145 = .ok (.iconst 0, 1) := by decide +kernel
theorem dX12_shape_146 : decode cX12_shape 146 = .ok (.istore 6, 2) := by decide +kernel
theorem dX12_shape_148 : decode cX12_shape 148 = .ok (.iload 6, 2) := by decide +kernel
theorem dX12_shape_150 : decode cX12_shape 150 = .ok (.iload_n 3, 1) := by decide +kernel
theorem dX12_shape_151 : decode cX12_shape 151 = .ok (.if_icmp .ge 65, 3) := by decide +kernel
theorem dX12_shape_154 : decode cX12_shape 154 = .ok (.iload 6, 2) := by decide +kernel
theorem dX12_shape_156 : decode cX12_shape 156 = .ok (.iconst 1, 1) := by decide +kernel
theorem dX12_shape_157 : decode cX12_shape 157 = .ok (.iadd, 1) := by decide +kernel
theorem dX12_shape_158 : decode cX12_shape 158 = .ok (.istore 7, 2) := by decide +kernel
theorem dX12_shape_160 : decode cX12_shape 160 = .ok (.iload 7, 2) := by decide +kernel
theorem dX12_shape_162 : decode cX12_shape 162 = .ok (.iload_n 3, 1) := by decide +kernel
theorem dX12_shape_163 : decode cX12_shape 163 = .ok (.if_icmp .ge 47, 3) := by decide +kernel
theorem dX12_shape_166 : decode cX12_shape 166 = .ok (.iload 6, 2) := by decide +kernel
theorem dX12_shape_168 : decode cX12_shape 168 = .ok (.iload_n 2, 1) := by decide +kernel
theorem dX12_shape_169 : decode cX12_shape 169 = .ok (.if_icmp .ge 7, 3) := by decide +kernel
theorem dX12_shape_172 : decode cX12_shape 172 = .ok (.iconst 1, 1) := by decide +kernel
theorem dX12_shape_173 : decode cX12_shape 173 = .ok (.goto 4, 3) := by decide +kernel
theorem dX12_shape_176 : decode cX12_shape 176 = .ok (.iconst 0, 1) := by decide +kernel
theorem dX12_shape_177 : decode cX12_shape 177 = .ok (.iload 7, 2) := by decide +kernel
theorem dX12_shape_179 : decode cX12_shape 179 = .ok (.iload_n 2, 1) := by decide +kernel
theorem dX12_shape_180 : decode cX12_shape 180 = .ok (.if_icmp .ge 7, 3) := by decide +kernel
theorem dX12_shape_183 : decode cX12_shape 183 = .ok (.iconst 1, 1) := by decide +kernel
theorem dX12_shape_184 : decode cX12_shape 184 = .ok (.goto 4, 3) := by decide +kernel
theorem dX12_shape_187 : decode cX12_shape 187 = .ok (.iconst 0, 1) := by decide +kernel
theorem dX12_shape_188 : decode cX12_shape 188 = .ok (.if_icmp .ne 16, 3) := by decide +kernel
theorem dX12_shape_191 : decode cX12_shape 191 = .ok (.lload 4, 2) := by decide +kernel
theorem dX12_shape_193 : decode cX12_shape 193 = .ok (.aload_n 0, 1) := by decide +kernel
theorem dX12_shape_194 : decode cX12_shape 194 = .ok (.iload 6, 2) := by decide +kernel
theorem dX12_shape_196 : decode cX12_shape 196 = .ok (.iload 7, 2) := by decide +kernel
theorem dX12_shape_198 : decode cX12_shape 198 = .ok (.invokevirtual 374, 3) := by decide +kernel
theorem dX12_shape_201 : decode cX12_shape 201 = .ok (.lor, 1) := by decide +kernel
theorem dX12_shape_202 : decode cX12_shape 202 = .ok (.lstore 4, 2) := by decide +kernel
theorem dX12_shape_204 : decode cX12_shape 204 = .ok (.iinc 7 1, 3) := by decide +kernel
theorem dX12_shape_207 : decode cX12_shape 207 = .ok (.goto (-47), 3) := by decide +kernel
theorem dX12_shape_210 : decode cX12_shape 210 = .ok (.iinc 6 1, 3) := by decide +kernel
theorem dX12_shape_213 : decode cX12_shape 213 = .ok (.goto (-65), 3) := by decide +kernel
theorem dX12_shape_216 : decode cX12_shape 216 = .ok (.lload 4, 2) := by decide +kernel
theorem dX12_shape_218 : decode cX12_shape 218 = .ok (.lreturn, 1) := by decide +kernel
theorem dX12_shape_219 : decode cX12_shape 219 = .ok (.aload_n 0, 1) := by decide +kernel
theorem dX12_shape_220 : decode cX12_shape 220 = .ok (.iload_n 2, 1) := by decide +kernel
theorem dX12_shape_221 : decode cX12_shape 221 = .ok (.invokevirtual 365, 3) := by decide +kernel
theorem dX12_shape_224 : decode cX12_shape 224 = .ok (.ifCond .eq 8, 3) := by decide +kernel
theorem dX12_shape_227 : decode cX12_shape 227 = .ok (.iload_n 3, 1) := by decide +kernel
theorem dX12_shape_228 : decode cX12_shape 228 = .ok (.iconst 4, 1) := by decide +kernel
theorem dX12_shape_229 : decode cX12_shape 229 = .ok (.if_icmp .ge 9, 3) := by decide +kernel
theorem dX12_shape_232 : decode cX12_shape 232 = .ok (.ldc2_w 115, 3) := by decide +kernel
theorem dX12_shape_235 : decode cX12_shape 235 = .ok (.goto 14, 3) := by decide +kernel
theorem dX12_shape_238 : decode cX12_shape 238 = .ok (.aload_n 0, 1) := by decide +kernel
theorem dX12_shape_239 : decode cX12_shape 239 = .ok (.iload_n 2, 1) := by decide +kernel
theorem dX12_shape_240 : decode cX12_shape 240 = .ok (.invokevirtual 382, 3) := by decide +kernel
theorem dX12_shape_243 : decode cX12_shape 243 = .ok (.aload_n 0, 1) := by decide +kernel
theorem dX12_shape_244 : decode cX12_shape 244 = .ok (.iload_n 2, 1) := by decide +kernel
theorem dX12_shape_245 : decode cX12_shape 245 = .ok (.invokevirtual 378, 3) := by decide +kernel
theorem dX12_shape_248 : decode cX12_shape 248 = .ok (.lor, 1) := by decide +kernel
theorem dX12_shape_249 : decode cX12_shape 249 = .ok (.lreturn, 1) := by decide +kernel
theorem dX12_shape_250 : decode cX12_shape 250 = .ok (.ldc2_w 115, 3) := by decide +kernel
theorem dX12_shape_253 : decode cX12_shape 253 = .ok (.lreturn, 1) := by decide +kernel
theorem dX12_extra_0 : decode cX12_extra 0 = .ok (.iload_n 1, 1) := by decide +kernel
theorem dX12_extra_1 : decode cX12_extra 1 = .ok (.i2l, 1) := by decide +kernel
theorem dX12_extra_2 : decode cX12_extra 2 = .ok (.ldc2_w 385, 3) := by decide +kernel
theorem dX12_extra_5 : decode cX12_extra 5 = .ok (.ldc2_w 387, 3) := by decide +kernel
theorem dX12_extra_8 : decode cX12_extra 8 = .ok (.invokestatic 206, 3) := by decide +kernel
theorem dX12_extra_11 : decode cX12_extra 11 = .ok (.ifCond .ne 5, 3) := by decide +kernel
theorem dX12_extra_14 : decode cX12_extra 14 = .ok (.iconst 0, 1) := by decide +kernel
theorem dX12_extra_15 : decode cX12_extra 15 = .ok (.ireturn, 1) := by decide +kernel
theorem dX12_extra_16 : decode cX12_extra 16 = .ok (.aload_n 0, 1) := by decide +kernel
theorem dX12_extra_17 : decode cX12_extra 17 = .ok (.iload_n 1, 1) := by decide +kernel
theorem dX12_extra_18 : decode cX12_extra 18 = .ok (.putfield 326, 3) := by decide +kernel
theorem dX12_extra_21 : decode cX12_extra 21 = .ok (.iconst 1, 1) := by decide +kernel
theorem dX12_extra_22 : decode cX12_extra 22 = .ok (.ireturn, 1) := by decide +kernel
theorem dX12_looks_0 : decode cX12_looks 0 = .ok (.aload_n 0, 1) := by decide +kernel
theorem dX12_looks_1 : decode cX12_looks 1 = .ok (.invokevirtual 345, 3) := by decide +kernel
theorem dX12_looks_4 : decode cX12_looks 4 = .ok (.istore_n 3, 1) := by decide +kernel
theorem dX12_looks_5 : decode cX12_looks 5 = .ok (.aload_n 0, 1) := by decide +kernel
theorem dX12_looks_6 : decode cX12_looks 6 = .ok (.lload_n 1, 1) := by decide +kernel
theorem dX12_looks_7 : decode cX12_looks 7 = .ok (.putfield 117, 3) := by decide +kernel
theorem dX12_looks_10 : decode cX12_looks 10 = .ok (.iconst 0, 1) := by decide +kernel
theorem dX12_looks_11 : decode cX12_looks 11 = .ok (.istore 4, 2) := by decide +kernel
theorem dX12_looks_13 : decode cX12_looks 13 = .ok (.iload 4, 2) := by decide +kernel
theorem dX12_looks_15 : decode cX12_looks 15 = .ok (.iload_n 3, 1) := by decide +kernel
theorem dX12_looks_16 : decode cX12_looks 16 = .ok (.if_icmp .ge 81, 3) := by decide +kernel
theorem dX12_looks_19 : decode cX12_looks 19 = .ok (.aload_n 0, 1) := by decide +kernel
theorem dX12_looks_20 : decode cX12_looks 20 = .ok (.getfield 124, 3) := by decide +kernel
theorem dX12_looks_23 : decode cX12_looks 23 = .ok (.iload 4, 2) := by decide +kernel
theorem dX12_looks_25 : decode cX12_looks 25 = .ok (.aload_n 0, 1) := by decide +kernel
theorem dX12_looks_26 : decode cX12_looks 26 = .ok (.lload_n 1, 1) := by decide +kernel
theorem dX12_looks_27 : decode cX12_looks 27 = .ok (.iload 4, 2) := by decide +kernel
theorem dX12_looks_29 : decode cX12_looks 29 = .ok (.invokevirtual 358, 3) := by decide +kernel
theorem dX12_looks_32 : decode cX12_looks 32 = .ok (.iastore, 1) := by decide +kernel
theorem dX12_looks_33 : decode cX12_looks 33 = .ok (.iconst 0, 1) := by decide +kernel
theorem dX12_looks_34 : decode cX12_looks 34 = .ok (.istore 5, 2) := by decide +kernel
theorem dX12_looks_36 : decode cX12_looks 36 = .ok (.iload 5, 2) := by decide +kernel
theorem dX12_looks_38 : decode cX12_looks 38 = .ok (.iload_n 3, 1) := by decide +kernel
theorem dX12_looks_39 : decode cX12_looks 39 = .ok (.if_icmp .ge 52, 3) := by decide +kernel
theorem dX12_looks_42 : decode cX12_looks 42 = .ok (.aload_n 0, 1) := by decide +kernel
theorem dX12_looks_43 : decode cX12_looks 43 = .ok (.getfield 121, 3) := by decide +kernel
theorem dX12_looks_46 : decode cX12_looks 46 = .ok (.bipush 10, 2) := by decide +kernel
theorem dX12_looks_48 : decode cX12_looks 48 = .ok (.iload 4, 2) := by decide +kernel
theorem dX12_looks_50 : decode cX12_looks 50 = .ok (.imul, 1) := by decide +kernel
theorem dX12_looks_51 : decode cX12_looks 51 = .ok (.iload 5, 2) := by decide +kernel
theorem dX12_looks_53 : decode cX12_looks 53 = .ok (.iadd, 1) := by decide +kernel
theorem dX12_looks_54 : decode cX12_looks 54 = .ok (.iload 4, 2) := by decide +kernel
theorem dX12_looks_56 : decode cX12_looks 56 = .ok (.iload 5, 2) := by decide +kernel
theorem dX12_looks_58 : decode cX12_looks 58 = .ok (.if_icmp .ne 7, 3) := by decide +kernel
theorem dX12_looks_61 : decode cX12_looks 61 = .ok (.iconst 0, 1) := by decide +kernel
theorem dX12_looks_62 : decode cX12_looks 62 = .ok (.goto 22, 3) := by decide +kernel
theorem dX12_looks_65 : decode cX12_looks 65 = .ok (.lload_n 1, 1) := by decide +kernel
theorem dX12_looks_66 : decode cX12_looks 66 = .ok (.iload 4, 2) := by decide +kernel
theorem dX12_looks_68 : decode cX12_looks 68 = .ok (.iload 5, 2) := by decide +kernel
theorem dX12_looks_70 : decode cX12_looks 70 = .ok (.invokestatic 308, 3) := by decide +kernel
theorem dX12_looks_73 : decode cX12_looks 73 = .ok (.invokestatic 351, 3) := by decide +kernel
theorem dX12_looks_76 : decode cX12_looks 76 = .ok (.ifCond .eq 7, 3) := by decide +kernel
theorem dX12_looks_79 : decode cX12_looks 79 = .ok (.iconst 1, 1) := by decide +kernel
theorem dX12_looks_80 : decode cX12_looks 80 = .ok (.goto 4, 3) := by decide +kernel
theorem dX12_looks_83 : decode cX12_looks 83 = .ok (.iconst (-1), 1) := by decide +kernel
theorem dX12_looks_84 : decode cX12_looks 84 = .ok (.iastore, 1) := by decide +kernel
theorem dX12_looks_85 : decode cX12_looks 85 = .ok (.iinc 5 1, 3) := by decide +kernel
theorem dX12_looks_88 : decode cX12_looks 88 = .ok (.goto (-52), 3) := by decide +kernel
theorem dX12_looks_91 : decode cX12_looks 91 = .ok (.iinc 4 1, 3) := by decide +kernel
theorem dX12_looks_94 : decode cX12_looks 94 = .ok (.goto (-81), 3) := by decide +kernel
theorem dX12_looks_97 : decode cX12_looks 97 = .ok (.iconst 0, 1) := by decide +kernel
theorem dX12_looks_98 : decode cX12_looks 98 = .ok (.istore 4, 2) := by decide +kernel
theorem dX12_looks_100 : decode cX12_looks 100 = .ok (.iload 4, 2) := by decide +kernel
theorem dX12_looks_102 : decode cX12_looks 102 = .ok (.iload_n 3, 1) := by decide +kernel
theorem dX12_looks_103 : decode cX12_looks 103 = .ok (.if_icmp .ge 133, 3) := by decide +kernel
theorem dX12_looks_106 : decode cX12_looks 106 = .ok (.iconst 0, 1) := by decide +kernel
theorem dX12_looks_107 : decode cX12_looks 107 = .ok (.istore 5, 2) := by decide +kernel
theorem dX12_looks_109 : decode cX12_looks 109 = .ok (.iload 5, 2) := by decide +kernel
theorem dX12_looks_111 : decode cX12_looks 111 = .ok (.iload_n 3, 1) := by decide +kernel
theorem dX12_looks_112 : decode cX12_looks 112 = .ok (.if_icmp .ge 118, 3) := by decide +kernel
theorem dX12_looks_115 : decode cX12_looks 115 = .ok (.iconst 0, 1) := by decide +kernel
theorem dX12_looks_116 : decode cX12_looks 116 = .ok (.istore 6, 2) := by decide +kernel
theorem dX12_looks_118 : decode cX12_looks 118 = .ok (.iload 6, 2) := by decide +kernel
theorem dX12_looks_120 : decode cX12_looks 120 = .ok (.iload_n 3, 1) := by decide +kernel
theorem dX12_looks_121 : decode cX12_looks 121 = .ok (.if_icmp .ge 103, 3) := by decide +kernel
theorem dX12_looks_124 : decode cX12_looks 124 = .ok (.aload_n 0, 1) := by decide +kernel
theorem dX12_looks_125 : decode cX12_looks 125 = .ok (.getfield 121, 3) := by decide +kernel
theorem dX12_looks_128 : decode cX12_looks 128 = .ok (.bipush 10, 2) := by decide +kernel
theorem dX12_looks_130 : decode cX12_looks 130 = .ok (.iload 5, 2) := by decide +kernel
theorem dX12_looks_132 : decode cX12_looks 132 = .ok (.imul, 1) := by decide +kernel
theorem dX12_looks_133 : decode cX12_looks 133 = .ok (.iload 4, 2) := by decide +kernel
theorem dX12_looks_135 : decode cX12_looks 135 = .ok (.iadd, 1) := by decide +kernel
theorem dX12_looks_136 : decode cX12_looks 136 = .ok (.iaload, 1) := by decide +kernel
theorem dX12_looks_137 : decode cX12_looks 137 = .ok (.istore 7, 2) := by decide +kernel
theorem dX12_looks_139 : decode cX12_looks 139 = .ok (.aload_n 0, 1) := by decide +kernel
theorem dX12_looks_140 : decode cX12_looks 140 = .ok (.getfield 121, 3) := by decide +kernel
theorem dX12_looks_143 : decode cX12_looks 143 = .ok (.bipush 10, 2) := by decide +kernel
theorem dX12_looks_145 : decode cX12_looks 145 = .ok (.iload 4, 2) := by decide +kernel
theorem dX12_looks_147 : decode cX12_looks 147 = .ok (.imul, 1) := by decide +kernel
theorem dX12_looks_148 : decode cX12_looks 148 = .ok (.iload 6, 2) := by decide +kernel
theorem dX12_looks_150 : decode cX12_looks 150 = .ok (.iadd, 1) := by decide +kernel
theorem dX12_looks_151 : decode cX12_looks 151 = .ok (.iaload, 1) := by decide +kernel
theorem dX12_looks_152 : decode cX12_looks 152 = .ok (.istore 8, 2) := by decide +kernel
theorem dX12_looks_154 : decode cX12_looks 154 = .ok (.iload 7, 2) := by decide +kernel
theorem dX12_looks_156 : decode cX12_looks 156 = .ok (.iconst (-1), 1) := by decide +kernel
theorem dX12_looks_157 : decode cX12_looks 157 = .ok (.if_icmp .eq 61, 3) := by decide +kernel
theorem dX12_looks_160 : decode cX12_looks 160 = .ok (.iload 8, 2) := by decide +kernel
theorem dX12_looks_162 : decode cX12_looks 162 = .ok (.iconst (-1), 1) := by decide +kernel
theorem dX12_looks_163 : decode cX12_looks 163 = .ok (.if_icmp .ne 6, 3) := by decide +kernel
theorem dX12_looks_166 : decode cX12_looks 166 = .ok (.goto 52, 3) := by decide +kernel
theorem dX12_looks_169 : decode cX12_looks 169 = .ok (.aload_n 0, 1) := by decide +kernel
theorem dX12_looks_170 : decode cX12_looks 170 = .ok (.getfield 121, 3) := by decide +kernel
theorem dX12_looks_173 : decode cX12_looks 173 = .ok (.bipush 10, 2) := by decide +kernel
theorem dX12_looks_175 : decode cX12_looks 175 = .ok (.iload 5, 2) := by decide +kernel
theorem dX12_looks_177 : decode cX12_looks 177 = .ok (.imul, 1) := by decide +kernel
theorem dX12_looks_178 : decode cX12_looks 178 = .ok (.iload 6, 2) := by decide +kernel
theorem dX12_looks_180 : decode cX12_looks 180 = .ok (.iadd, 1) := by decide +kernel
theorem dX12_looks_181 : decode cX12_looks 181 = .ok (.iaload, 1) := by decide +kernel
theorem dX12_looks_182 : decode cX12_looks 182 = .ok (.istore 9, 2) := by decide +kernel
theorem dX12_looks_184 : decode cX12_looks 184 = .ok (.iload 9, 2) := by decide +kernel
theorem dX12_looks_186 : decode cX12_looks 186 = .ok (.iconst (-1), 1) := by decide +kernel
theorem dX12_looks_187 : decode cX12_looks 187 = .ok (.if_icmp .eq 13, 3) := by decide +kernel
theorem dX12_looks_190 : decode cX12_looks 190 = .ok (.iload 7, 2) := by decide +kernel
theorem dX12_looks_192 : decode cX12_looks 192 = .ok (.iload 8, 2) := by decide +kernel
theorem dX12_looks_194 : decode cX12_looks 194 = .ok (.iadd, 1) := by decide +kernel
theorem dX12_looks_195 : decode cX12_looks 195 = .ok (.iload 9, 2) := by decide +kernel
theorem dX12_looks_197 : decode cX12_looks 197 = .ok (.if_icmp .ge 21, 3) := by decide +kernel
theorem dX12_looks_200 : decode cX12_looks 200 = .ok (.aload_n 0, 1) := by decide +kernel
theorem dX12_looks_201 : decode cX12_looks 201 = .ok (.getfield 121, 3) := by decide +kernel
theorem dX12_looks_204 : decode cX12_looks 204 = .ok (.bipush 10, 2) := by decide +kernel
theorem dX12_looks_206 : decode cX12_looks 206 = .ok (.iload 5, 2) := by decide +kernel
theorem dX12_looks_208 : decode cX12_looks 208 = .ok (.imul, 1) := by decide +kernel
theorem dX12_looks_209 : decode cX12_looks 209 = .ok (.iload 6, 2) := by decide +kernel
theorem dX12_looks_211 : decode cX12_looks 211 = .ok (.iadd, 1) := by decide +kernel
theorem dX12_looks_212 : decode cX12_looks 212 = .ok (.iload 7, 2) := by decide +kernel
theorem dX12_looks_214 : decode cX12_looks 214 = .ok (.iload 8, 2) := by decide +kernel
theorem dX12_looks_216 : decode cX12_looks 216 = .ok (.iadd, 1) := by decide +kernel
theorem dX12_looks_217 : decode cX12_looks 217 = .ok (.iastore, 1) := by decide +kernel
theorem dX12_looks_218 : decode cX12_looks 218 = .ok (.iinc 6 1, 3) := by decide +kernel
theorem dX12_looks_221 : decode cX12_looks 221 = .ok (.goto (-103), 3) := by decide +kernel
theorem dX12_looks_224 : decode cX12_looks 224 = .ok (.iinc 5 1, 3) := by decide +kernel
theorem dX12_looks_227 : decode cX12_looks 227 = .ok (.goto (-118), 3) := by decide +kernel
theorem dX12_looks_230 : decode cX12_looks 230 = .ok (.iinc 4 1, 3) := by decide +kernel
theorem dX12_looks_233 : decode cX12_looks 233 = .ok (.goto (-133), 3) := by decide +kernel
theorem dX12_looks_236 : decode cX12_looks 236 = .ok (.aload_n 0, 1) := by decide +kernel
theorem dX12_looks_237 : decode cX12_looks 237 = .ok (.lload_n 1, 1) := by decide +kernel
theorem dX12_looks_238 : decode cX12_looks 238 = .ok (.invokestatic 362, 3) := by decide +kernel
theorem dX12_looks_241 : decode cX12_looks 241 = .ok (.putfield 389, 3) := by decide +kernel
theorem dX12_looks_244 : decode cX12_looks 244 = .ok (.return_, 1) := by decide +kernel
theorem dX12_clip_0 : decode cX12_clip 0 = .ok (.lload_n 0, 1) := by decide +kernel
theorem dX12_clip_1 : decode cX12_clip 1 = .ok (.ldc2_w 392, 3) := by decide +kernel
theorem dX12_clip_4 : decode cX12_clip 4 = .ok (.lcmp, 1) := by decide +kernel
theorem dX12_clip_5 : decode cX12_clip 5 = .ok (.ifCond .le 9, 3) := by decide +kernel
theorem dX12_clip_8 : decode cX12_clip 8 = .ok (.ldc2_w 392, 3) := by decide +kernel
theorem dX12_clip_11 : decode cX12_clip 11 = .ok (.goto 18, 3) := by decide +kernel
theorem dX12_clip_14 : decode cX12_clip 14 = .ok (.lload_n 0, 1) := by decide +kernel
theorem dX12_clip_15 : decode cX12_clip 15 = .ok (.ldc2_w 394, 3) := by decide +kernel
theorem dX12_clip_18 : decode cX12_clip 18 = .ok (.lcmp, 1) := by decide +kernel
theorem dX12_clip_19 : decode cX12_clip 19 = .ok (.ifCond .ge 9, 3) := by decide +kernel
theorem dX12_clip_22 : decode cX12_clip 22 = .ok (.ldc2_w 394, 3) := by decide +kernel
theorem dX12_clip_25 : decode cX12_clip 25 = .ok (.goto 4, 3) := by decide +kernel
theorem dX12_clip_28 : decode cX12_clip 28 = .ok (.lload_n 0, 1) := by decide +kernel
theorem dX12_clip_29 : decode cX12_clip 29 = .ok (.lreturn, 1) := by decide +kernel
theorem dX12_floor_0 : decode cX12_floor 0 = .ok (.lload_n 2, 1) := by decide +kernel
theorem dX12_floor_1 : decode cX12_floor 1 = .ok (.lconst 0, 1) := by decide +kernel
theorem dX12_floor_2 : decode cX12_floor 2 = .ok (.lcmp, 1) := by decide +kernel
theorem dX12_floor_3 : decode cX12_floor 3 = .ok (.ifCond .ne 5, 3) := by decide +kernel
theorem dX12_floor_6 : decode cX12_floor 6 = .ok (.lconst 0, 1) := by decide +kernel
theorem dX12_floor_7 : decode cX12_floor 7 = .ok (.lreturn, 1) := by decide +kernel
theorem dX12_floor_8 : decode cX12_floor 8 = .ok (.lload_n 0, 1) := by decide +kernel
theorem dX12_floor_9 : decode cX12_floor 9 = .ok (.lload_n 2, 1) := by decide +kernel
theorem dX12_floor_10 : decode cX12_floor 10 = .ok (.ldiv, 1) := by decide +kernel
theorem dX12_floor_11 : decode cX12_floor 11 = .ok (.lstore 4, 2) := by decide +kernel
theorem dX12_floor_13 : decode cX12_floor 13 = .ok (.lload_n 0, 1) := by decide +kernel
theorem dX12_floor_14 : decode cX12_floor 14 = .ok (.lload_n 2, 1) := by decide +kernel
theorem dX12_floor_15 : decode cX12_floor 15 = .ok (.lrem, 1) := by decide +kernel
theorem dX12_floor_16 : decode cX12_floor 16 = .ok (.lconst 0, 1) := by decide +kernel
theorem dX12_floor_17 : decode cX12_floor 17 = .ok (.lcmp, 1) := by decide +kernel
theorem dX12_floor_18 : decode cX12_floor 18 = .ok (.ifCond .eq 35, 3) := by decide +kernel
theorem dX12_floor_21 : decode cX12_floor 21 = .ok (.lload_n 0, 1) := by decide +kernel
theorem dX12_floor_22 : decode cX12_floor 22 = .ok (.lconst 0, 1) := by decide +kernel
theorem dX12_floor_23 : decode cX12_floor 23 = .ok (.lcmp, 1) := by decide +kernel
theorem dX12_floor_24 : decode cX12_floor 24 = .ok (.ifCond .ge 7, 3) := by decide +kernel
theorem dX12_floor_27 : decode cX12_floor 27 = .ok (.iconst 1, 1) := by decide +kernel
theorem dX12_floor_28 : decode cX12_floor 28 = .ok (.goto 4, 3) := by decide +kernel
theorem dX12_floor_31 : decode cX12_floor 31 = .ok (.iconst 0, 1) := by decide +kernel
theorem dX12_floor_32 : decode cX12_floor 32 = .ok (.lload_n 2, 1) := by decide +kernel
theorem dX12_floor_33 : decode cX12_floor 33 = .ok (.lconst 0, 1) := by decide +kernel
theorem dX12_floor_34 : decode cX12_floor 34 = .ok (.lcmp, 1) := by decide +kernel
theorem dX12_floor_35 : decode cX12_floor 35 = .ok (.ifCond .ge 7, 3) := by decide +kernel
theorem dX12_floor_38 : decode cX12_floor 38 = .ok (.iconst 1, 1) := by decide +kernel
theorem dX12_floor_39 : decode cX12_floor 39 = .ok (.goto 4, 3) := by decide +kernel
theorem dX12_floor_42 : decode cX12_floor 42 = .ok (.iconst 0, 1) := by decide +kernel
theorem dX12_floor_43 : decode cX12_floor 43 = .ok (.if_icmp .eq 10, 3) := by decide +kernel
theorem dX12_floor_46 : decode cX12_floor 46 = .ok (.lload 4, 2) := by decide +kernel
theorem dX12_floor_48 : decode cX12_floor 48 = .ok (.lconst 1, 1) := by decide +kernel
theorem dX12_floor_49 : decode cX12_floor 49 = .ok (.lsub, 1) := by decide +kernel
theorem dX12_floor_50 : decode cX12_floor 50 = .ok (.goto 5, 3) := by decide +kernel
theorem dX12_floor_53 : decode cX12_floor 53 = .ok (.lload 4, 2) := by decide +kernel
theorem dX12_floor_55 : decode cX12_floor 55 = .ok (.lreturn, 1) := by decide +kernel
theorem dX12_puts_0 : decode cX12_puts 0 = .ok (.aload_n 0, 1) := by decide +kernel
theorem dX12_puts_1 : decode cX12_puts 1 = .ok (.getfield 130, 3) := by decide +kernel
theorem dX12_puts_4 : decode cX12_puts 4 = .ok (.aload_n 0, 1) := by decide +kernel
theorem dX12_puts_5 : decode cX12_puts 5 = .ok (.getfield 396, 3) := by decide +kernel
theorem dX12_puts_8 : decode cX12_puts 8 = .ok (.lload_n 1, 1) := by decide +kernel
theorem dX12_puts_9 : decode cX12_puts 9 = .ok (.lastore, 1) := by decide +kernel
theorem dX12_puts_10 : decode cX12_puts 10 = .ok (.aload_n 0, 1) := by decide +kernel
theorem dX12_puts_11 : decode cX12_puts 11 = .ok (.dup, 1) := by decide +kernel
theorem dX12_puts_12 : decode cX12_puts 12 = .ok (.getfield 396, 3) := by decide +kernel
theorem dX12_puts_15 : decode cX12_puts 15 = .ok (.iconst 1, 1) := by decide +kernel
theorem dX12_puts_16 : decode cX12_puts 16 = .ok (.iadd, 1) := by decide +kernel
theorem dX12_puts_17 : decode cX12_puts 17 = .ok (.putfield 396, 3) := by decide +kernel
theorem dX12_puts_20 : decode cX12_puts 20 = .ok (.return_, 1) := by decide +kernel
theorem dX12_joins_0 : decode cX12_joins 0 = .ok (.aload_n 0, 1) := by decide +kernel
theorem dX12_joins_1 : decode cX12_joins 1 = .ok (.getfield 130, 3) := by decide +kernel
theorem dX12_joins_4 : decode cX12_joins 4 = .ok (.aload_n 0, 1) := by decide +kernel
theorem dX12_joins_5 : decode cX12_joins 5 = .ok (.getfield 396, 3) := by decide +kernel
theorem dX12_joins_8 : decode cX12_joins 8 = .ok (.iconst 1, 1) := by decide +kernel
theorem dX12_joins_9 : decode cX12_joins 9 = .ok (.isub, 1) := by decide +kernel
theorem dX12_joins_10 : decode cX12_joins 10 = .ok (.laload, 1) := by decide +kernel
theorem dX12_joins_11 : decode cX12_joins 11 = .ok (.lstore_n 2, 1) := by decide +kernel
theorem dX12_joins_12 : decode cX12_joins 12 = .ok (.aload_n 0, 1) := by decide +kernel
theorem dX12_joins_13 : decode cX12_joins 13 = .ok (.getfield 130, 3) := by decide +kernel
theorem dX12_joins_16 : decode cX12_joins 16 = .ok (.aload_n 0, 1) := by decide +kernel
theorem dX12_joins_17 : decode cX12_joins 17 = .ok (.getfield 396, 3) := by decide +kernel
theorem dX12_joins_20 : decode cX12_joins 20 = .ok (.iconst 2, 1) := by decide +kernel
theorem dX12_joins_21 : decode cX12_joins 21 = .ok (.isub, 1) := by decide +kernel
theorem dX12_joins_22 : decode cX12_joins 22 = .ok (.laload, 1) := by decide +kernel
theorem dX12_joins_23 : decode cX12_joins 23 = .ok (.lstore 4, 2) := by decide +kernel
theorem dX12_joins_25 : decode cX12_joins 25 = .ok (.aload_n 0, 1) := by decide +kernel
theorem dX12_joins_26 : decode cX12_joins 26 = .ok (.dup, 1) := by decide +kernel
theorem dX12_joins_27 : decode cX12_joins 27 = .ok (.getfield 396, 3) := by decide +kernel
theorem dX12_joins_30 : decode cX12_joins 30 = .ok (.iconst 2, 1) := by decide +kernel
theorem dX12_joins_31 : decode cX12_joins 31 = .ok (.isub, 1) := by decide +kernel
theorem dX12_joins_32 : decode cX12_joins 32 = .ok (.putfield 396, 3) := by decide +kernel
theorem dX12_joins_35 : decode cX12_joins 35 = .ok (.iload_n 1, 1) := by decide +kernel
theorem dX12_joins_36 : decode cX12_joins 36 = .ok (.tableswitch 235 1 14 #[72, 86, 100, 114, 127, 147, 235, 235, 235, 235, 167, 186, 205, 224], 72) := by decide +kernel
theorem dX12_joins_108 : decode cX12_joins 108 = .ok (.aload_n 0, 1) := by decide +kernel
theorem dX12_joins_109 : decode cX12_joins 109 = .ok (.lload 4, 2) := by decide +kernel
theorem dX12_joins_111 : decode cX12_joins 111 = .ok (.lload_n 2, 1) := by decide +kernel
theorem dX12_joins_112 : decode cX12_joins 112 = .ok (.ladd, 1) := by decide +kernel
theorem dX12_joins_113 : decode cX12_joins 113 = .ok (.invokestatic 399, 3) := by decide +kernel
theorem dX12_joins_116 : decode cX12_joins 116 = .ok (.invokevirtual 403, 3) := by decide +kernel
theorem dX12_joins_119 : decode cX12_joins 119 = .ok (.goto 170, 3) := by decide +kernel
theorem dX12_joins_122 : decode cX12_joins 122 = .ok (.aload_n 0, 1) := by decide +kernel
theorem dX12_joins_123 : decode cX12_joins 123 = .ok (.lload 4, 2) := by decide +kernel
theorem dX12_joins_125 : decode cX12_joins 125 = .ok (.lload_n 2, 1) := by decide +kernel
theorem dX12_joins_126 : decode cX12_joins 126 = .ok (.lsub, 1) := by decide +kernel
theorem dX12_joins_127 : decode cX12_joins 127 = .ok (.invokestatic 399, 3) := by decide +kernel
theorem dX12_joins_130 : decode cX12_joins 130 = .ok (.invokevirtual 403, 3) := by decide +kernel
theorem dX12_joins_133 : decode cX12_joins 133 = .ok (.goto 156, 3) := by decide +kernel
theorem dX12_joins_136 : decode cX12_joins 136 = .ok (.aload_n 0, 1) := by decide +kernel
theorem dX12_joins_137 : decode cX12_joins 137 = .ok (.lload 4, 2) := by decide +kernel
theorem dX12_joins_139 : decode cX12_joins 139 = .ok (.lload_n 2, 1) := by decide +kernel
theorem dX12_joins_140 : decode cX12_joins 140 = .ok (.lmul, 1) := by decide +kernel
theorem dX12_joins_141 : decode cX12_joins 141 = .ok (.invokestatic 399, 3) := by decide +kernel
theorem dX12_joins_144 : decode cX12_joins 144 = .ok (.invokevirtual 403, 3) := by decide +kernel
theorem dX12_joins_147 : decode cX12_joins 147 = .ok (.goto 142, 3) := by decide +kernel
theorem dX12_joins_150 : decode cX12_joins 150 = .ok (.aload_n 0, 1) := by decide +kernel
theorem dX12_joins_151 : decode cX12_joins 151 = .ok (.lload 4, 2) := by decide +kernel
theorem dX12_joins_153 : decode cX12_joins 153 = .ok (.lload_n 2, 1) := by decide +kernel
theorem dX12_joins_154 : decode cX12_joins 154 = .ok (.invokestatic 407, 3) := by decide +kernel
theorem dX12_joins_157 : decode cX12_joins 157 = .ok (.invokevirtual 403, 3) := by decide +kernel
theorem dX12_joins_160 : decode cX12_joins 160 = .ok (.goto 129, 3) := by decide +kernel
theorem dX12_joins_163 : decode cX12_joins 163 = .ok (.aload_n 0, 1) := by decide +kernel
theorem dX12_joins_164 : decode cX12_joins 164 = .ok (.lload 4, 2) := by decide +kernel
theorem dX12_joins_166 : decode cX12_joins 166 = .ok (.lload_n 2, 1) := by decide +kernel
theorem dX12_joins_167 : decode cX12_joins 167 = .ok (.lcmp, 1) := by decide +kernel
theorem dX12_joins_168 : decode cX12_joins 168 = .ok (.ifCond .ge 8, 3) := by decide +kernel
theorem dX12_joins_171 : decode cX12_joins 171 = .ok (.lload 4, 2) := by decide +kernel
theorem dX12_joins_173 : decode cX12_joins 173 = .ok (.goto 4, 3) := by decide +kernel
theorem dX12_joins_176 : decode cX12_joins 176 = .ok (.lload_n 2, 1) := by decide +kernel
theorem dX12_joins_177 : decode cX12_joins 177 = .ok (.invokevirtual 403, 3) := by decide +kernel
theorem dX12_joins_180 : decode cX12_joins 180 = .ok (.goto 109, 3) := by decide +kernel
theorem dX12_joins_183 : decode cX12_joins 183 = .ok (.aload_n 0, 1) := by decide +kernel
theorem dX12_joins_184 : decode cX12_joins 184 = .ok (.lload 4, 2) := by decide +kernel
theorem dX12_joins_186 : decode cX12_joins 186 = .ok (.lload_n 2, 1) := by decide +kernel
theorem dX12_joins_187 : decode cX12_joins 187 = .ok (.lcmp, 1) := by decide +kernel
theorem dX12_joins_188 : decode cX12_joins 188 = .ok (.ifCond .le 8, 3) := by decide +kernel
theorem dX12_joins_191 : decode cX12_joins 191 = .ok (.lload 4, 2) := by decide +kernel
theorem dX12_joins_193 : decode cX12_joins 193 = .ok (.goto 4, 3) := by decide +kernel
theorem dX12_joins_196 : decode cX12_joins 196 = .ok (.lload_n 2, 1) := by decide +kernel
theorem dX12_joins_197 : decode cX12_joins 197 = .ok (.invokevirtual 403, 3) := by decide +kernel
theorem dX12_joins_200 : decode cX12_joins 200 = .ok (.goto 89, 3) := by decide +kernel
theorem dX12_joins_203 : decode cX12_joins 203 = .ok (.aload_n 0, 1) := by decide +kernel
theorem dX12_joins_204 : decode cX12_joins 204 = .ok (.lload 4, 2) := by decide +kernel
theorem dX12_joins_206 : decode cX12_joins 206 = .ok (.lload_n 2, 1) := by decide +kernel
theorem dX12_joins_207 : decode cX12_joins 207 = .ok (.lcmp, 1) := by decide +kernel
theorem dX12_joins_208 : decode cX12_joins 208 = .ok (.ifCond .ge 7, 3) := by decide +kernel
theorem dX12_joins_211 : decode cX12_joins 211 = .ok (.lconst 1, 1) := by decide +kernel
theorem dX12_joins_212 : decode cX12_joins 212 = .ok (.goto 4, 3) := by decide +kernel
theorem dX12_joins_215 : decode cX12_joins 215 = .ok (.lconst 0, 1) := by decide +kernel
theorem dX12_joins_216 : decode cX12_joins 216 = .ok (.invokevirtual 403, 3) := by decide +kernel
theorem dX12_joins_219 : decode cX12_joins 219 = .ok (.goto 70, 3) := by decide +kernel
theorem dX12_joins_222 : decode cX12_joins 222 = .ok (.aload_n 0, 1) := by decide +kernel
theorem dX12_joins_223 : decode cX12_joins 223 = .ok (.lload 4, 2) := by decide +kernel
theorem dX12_joins_225 : decode cX12_joins 225 = .ok (.lload_n 2, 1) := by decide +kernel
theorem dX12_joins_226 : decode cX12_joins 226 = .ok (.lcmp, 1) := by decide +kernel
theorem dX12_joins_227 : decode cX12_joins 227 = .ok (.ifCond .le 7, 3) := by decide +kernel
theorem dX12_joins_230 : decode cX12_joins 230 = .ok (.lconst 1, 1) := by decide +kernel
theorem dX12_joins_231 : decode cX12_joins 231 = .ok (.goto 4, 3) := by decide +kernel
theorem dX12_joins_234 : decode cX12_joins 234 = .ok (.lconst 0, 1) := by decide +kernel
theorem dX12_joins_235 : decode cX12_joins 235 = .ok (.invokevirtual 403, 3) := by decide +kernel
theorem dX12_joins_238 : decode cX12_joins 238 = .ok (.goto 51, 3) := by decide +kernel
theorem dX12_joins_241 : decode cX12_joins 241 = .ok (.aload_n 0, 1) := by decide +kernel
theorem dX12_joins_242 : decode cX12_joins 242 = .ok (.lload 4, 2) := by decide +kernel
theorem dX12_joins_244 : decode cX12_joins 244 = .ok (.lload_n 2, 1) := by decide +kernel
theorem dX12_joins_245 : decode cX12_joins 245 = .ok (.lcmp, 1) := by decide +kernel
theorem dX12_joins_246 : decode cX12_joins 246 = .ok (.ifCond .ne 7, 3) := by decide +kernel
theorem dX12_joins_249 : decode cX12_joins 249 = .ok (.lconst 1, 1) := by decide +kernel
theorem dX12_joins_250 : decode cX12_joins 250 = .ok (.goto 4, 3) := by decide +kernel
theorem dX12_joins_253 : decode cX12_joins 253 = .ok (.lconst 0, 1) := by decide +kernel
theorem dX12_joins_254 : decode cX12_joins 254 = .ok (.invokevirtual 403, 3) := by decide +kernel
theorem dX12_joins_257 : decode cX12_joins 257 = .ok (.goto 32, 3) := by decide +kernel
theorem dX12_joins_260 : decode cX12_joins 260 = .ok (.aload_n 0, 1) := by decide +kernel
theorem dX12_joins_261 : decode cX12_joins 261 = .ok (.lload 4, 2) := by decide +kernel
theorem dX12_joins_263 : decode cX12_joins 263 = .ok (.lload_n 2, 1) := by decide +kernel
theorem dX12_joins_264 : decode cX12_joins 264 = .ok (.lmul, 1) := by decide +kernel
theorem dX12_joins_265 : decode cX12_joins 265 = .ok (.invokevirtual 403, 3) := by decide +kernel
theorem dX12_joins_268 : decode cX12_joins 268 = .ok (.goto 21, 3) := by decide +kernel
theorem dX12_joins_271 : decode cX12_joins 271 = .ok (.aload_n 0, 1) := by decide +kernel
theorem dX12_joins_272 : decode cX12_joins 272 = .ok (.lload 4, 2) := by decide +kernel
theorem dX12_joins_274 : decode cX12_joins 274 = .ok (.lload_n 2, 1) := by decide +kernel
theorem dX12_joins_275 : decode cX12_joins 275 = .ok (.ladd, 1) := by decide +kernel
theorem dX12_joins_276 : decode cX12_joins 276 = .ok (.lconst 0, 1) := by decide +kernel
theorem dX12_joins_277 : decode cX12_joins 277 = .ok (.lcmp, 1) := by decide +kernel
theorem dX12_joins_278 : decode cX12_joins 278 = .ok (.ifCond .le 7, 3) := by decide +kernel
theorem dX12_joins_281 : decode cX12_joins 281 = .ok (.lconst 1, 1) := by decide +kernel
theorem dX12_joins_282 : decode cX12_joins 282 = .ok (.goto 4, 3) := by decide +kernel
theorem dX12_joins_285 : decode cX12_joins 285 = .ok (.lconst 0, 1) := by decide +kernel
theorem dX12_joins_286 : decode cX12_joins 286 = .ok (.invokevirtual 403, 3) := by decide +kernel
theorem dX12_joins_289 : decode cX12_joins 289 = .ok (.return_, 1) := by decide +kernel
theorem dX12_tellsCodes_0 : decode cX12_tellsCodes 0 = .ok (.aload_n 0, 1) := by decide +kernel
theorem dX12_tellsCodes_1 : decode cX12_tellsCodes 1 = .ok (.iconst 0, 1) := by decide +kernel
theorem dX12_tellsCodes_2 : decode cX12_tellsCodes 2 = .ok (.putfield 396, 3) := by decide +kernel
theorem dX12_tellsCodes_5 : decode cX12_tellsCodes 5 = .ok (.iload_n 1, 1) := by decide +kernel
theorem dX12_tellsCodes_6 : decode cX12_tellsCodes 6 = .ok (.istore 5, 2) := by decide +kernel
theorem dX12_tellsCodes_8 : decode cX12_tellsCodes 8 = .ok (.iload 5, 2) := by decide +kernel
theorem dX12_tellsCodes_10 : decode cX12_tellsCodes 10 = .ok (.iload_n 2, 1) := by decide +kernel
theorem dX12_tellsCodes_11 : decode cX12_tellsCodes 11 = .ok (.if_icmp .ge 297, 3) := by decide +kernel
theorem dX12_tellsCodes_14 : decode cX12_tellsCodes 14 = .ok (.aload_n 0, 1) := by decide +kernel
theorem dX12_tellsCodes_15 : decode cX12_tellsCodes 15 = .ok (.getfield 109, 3) := by decide +kernel
theorem dX12_tellsCodes_18 : decode cX12_tellsCodes 18 = .ok (.sipush 900, 3) := by decide +kernel
theorem dX12_tellsCodes_21 : decode cX12_tellsCodes 21 = .ok (.iload 5, 2) := by decide +kernel
theorem dX12_tellsCodes_23 : decode cX12_tellsCodes 23 = .ok (.iadd, 1) := by decide +kernel
theorem dX12_tellsCodes_24 : decode cX12_tellsCodes 24 = .ok (.iaload, 1) := by decide +kernel
theorem dX12_tellsCodes_25 : decode cX12_tellsCodes 25 = .ok (.istore 6, 2) := by decide +kernel
theorem dX12_tellsCodes_27 : decode cX12_tellsCodes 27 = .ok (.iload 6, 2) := by decide +kernel
theorem dX12_tellsCodes_29 : decode cX12_tellsCodes 29 = .ok (.sipush 1000, 3) := by decide +kernel
theorem dX12_tellsCodes_32 : decode cX12_tellsCodes 32 = .ok (.if_icmp .lt 17, 3) := by decide +kernel
theorem dX12_tellsCodes_35 : decode cX12_tellsCodes 35 = .ok (.aload_n 0, 1) := by decide +kernel
theorem dX12_tellsCodes_36 : decode cX12_tellsCodes 36 = .ok (.iload 6, 2) := by decide +kernel
theorem dX12_tellsCodes_38 : decode cX12_tellsCodes 38 = .ok (.sipush 1000, 3) := by decide +kernel
theorem dX12_tellsCodes_41 : decode cX12_tellsCodes 41 = .ok (.isub, 1) := by decide +kernel
theorem dX12_tellsCodes_42 : decode cX12_tellsCodes 42 = .ok (.i2l, 1) := by decide +kernel
theorem dX12_tellsCodes_43 : decode cX12_tellsCodes 43 = .ok (.invokevirtual 403, 3) := by decide +kernel
theorem dX12_tellsCodes_46 : decode cX12_tellsCodes 46 = .ok (.goto 256, 3) := by decide +kernel
theorem dX12_tellsCodes_49 : decode cX12_tellsCodes 49 = .ok (.iload 6, 2) := by decide +kernel
theorem dX12_tellsCodes_51 : decode cX12_tellsCodes 51 = .ok (.bipush 100, 2) := by decide +kernel
theorem dX12_tellsCodes_53 : decode cX12_tellsCodes 53 = .ok (.if_icmp .lt 24, 3) := by decide +kernel
theorem dX12_tellsCodes_56 : decode cX12_tellsCodes 56 = .ok (.aload_n 0, 1) := by decide +kernel
theorem dX12_tellsCodes_57 : decode cX12_tellsCodes 57 = .ok (.iload 6, 2) := by decide +kernel
theorem dX12_tellsCodes_59 : decode cX12_tellsCodes 59 = .ok (.bipush 100, 2) := by decide +kernel
theorem dX12_tellsCodes_61 : decode cX12_tellsCodes 61 = .ok (.isub, 1) := by decide +kernel
theorem dX12_tellsCodes_62 : decode cX12_tellsCodes 62 = .ok (.iload_n 3, 1) := by decide +kernel
theorem dX12_tellsCodes_63 : decode cX12_tellsCodes 63 = .ok (.if_icmp .ne 7, 3) := by decide +kernel
theorem dX12_tellsCodes_66 : decode cX12_tellsCodes 66 = .ok (.lconst 1, 1) := by decide +kernel
theorem dX12_tellsCodes_67 : decode cX12_tellsCodes 67 = .ok (.goto 4, 3) := by decide +kernel
theorem dX12_tellsCodes_70 : decode cX12_tellsCodes 70 = .ok (.lconst 0, 1) := by decide +kernel
theorem dX12_tellsCodes_71 : decode cX12_tellsCodes 71 = .ok (.invokevirtual 403, 3) := by decide +kernel
theorem dX12_tellsCodes_74 : decode cX12_tellsCodes 74 = .ok (.goto 228, 3) := by decide +kernel
theorem dX12_tellsCodes_77 : decode cX12_tellsCodes 77 = .ok (.iload 6, 2) := by decide +kernel
theorem dX12_tellsCodes_79 : decode cX12_tellsCodes 79 = .ok (.bipush 7, 2) := by decide +kernel
theorem dX12_tellsCodes_81 : decode cX12_tellsCodes 81 = .ok (.if_icmp .ne 23, 3) := by decide +kernel
theorem dX12_tellsCodes_84 : decode cX12_tellsCodes 84 = .ok (.aload_n 0, 1) := by decide +kernel
theorem dX12_tellsCodes_85 : decode cX12_tellsCodes 85 = .ok (.aload_n 0, 1) := by decide +kernel
theorem dX12_tellsCodes_86 : decode cX12_tellsCodes 86 = .ok (.getfield 121, 3) := by decide +kernel
theorem dX12_tellsCodes_89 : decode cX12_tellsCodes 89 = .ok (.bipush 10, 2) := by decide +kernel
theorem dX12_tellsCodes_91 : decode cX12_tellsCodes 91 = .ok (.iload_n 3, 1) := by decide +kernel
theorem dX12_tellsCodes_92 : decode cX12_tellsCodes 92 = .ok (.imul, 1) := by decide +kernel
theorem dX12_tellsCodes_93 : decode cX12_tellsCodes 93 = .ok (.iload 4, 2) := by decide +kernel
theorem dX12_tellsCodes_95 : decode cX12_tellsCodes 95 = .ok (.iadd, 1) := by decide +kernel
theorem dX12_tellsCodes_96 : decode cX12_tellsCodes 96 = .ok (.iaload, 1) := by decide +kernel
theorem dX12_tellsCodes_97 : decode cX12_tellsCodes 97 = .ok (.i2l, 1) := by decide +kernel
theorem dX12_tellsCodes_98 : decode cX12_tellsCodes 98 = .ok (.invokevirtual 403, 3) := by decide +kernel
theorem dX12_tellsCodes_101 : decode cX12_tellsCodes 101 = .ok (.goto 201, 3) := by decide +kernel
theorem dX12_tellsCodes_104 : decode cX12_tellsCodes 104 = .ok (.iload 6, 2) := by decide +kernel
theorem dX12_tellsCodes_106 : decode cX12_tellsCodes 106 = .ok (.bipush 8, 2) := by decide +kernel
theorem dX12_tellsCodes_108 : decode cX12_tellsCodes 108 = .ok (.if_icmp .ne 77, 3) := by decide +kernel
theorem dX12_tellsCodes_111 : decode cX12_tellsCodes 111 = .ok (.aload_n 0, 1) := by decide +kernel
theorem dX12_tellsCodes_112 : decode cX12_tellsCodes 112 = .ok (.aload_n 0, 1) := by decide +kernel
theorem dX12_tellsCodes_113 : decode cX12_tellsCodes 113 = .ok (.getfield 82, 3) := by decide +kernel
theorem dX12_tellsCodes_116 : decode cX12_tellsCodes 116 = .ok (.bipush 10, 2) := by decide +kernel
theorem dX12_tellsCodes_118 : decode cX12_tellsCodes 118 = .ok (.iload_n 3, 1) := by decide +kernel
theorem dX12_tellsCodes_119 : decode cX12_tellsCodes 119 = .ok (.iadd, 1) := by decide +kernel
theorem dX12_tellsCodes_120 : decode cX12_tellsCodes 120 = .ok (.iaload, 1) := by decide +kernel
theorem dX12_tellsCodes_121 : decode cX12_tellsCodes 121 = .ok (.aload_n 0, 1) := by decide +kernel
theorem dX12_tellsCodes_122 : decode cX12_tellsCodes 122 = .ok (.getfield 82, 3) := by decide +kernel
theorem dX12_tellsCodes_125 : decode cX12_tellsCodes 125 = .ok (.bipush 10, 2) := by decide +kernel
theorem dX12_tellsCodes_127 : decode cX12_tellsCodes 127 = .ok (.iload 4, 2) := by decide +kernel
theorem dX12_tellsCodes_129 : decode cX12_tellsCodes 129 = .ok (.iadd, 1) := by decide +kernel
theorem dX12_tellsCodes_130 : decode cX12_tellsCodes 130 = .ok (.iaload, 1) := by decide +kernel
theorem dX12_tellsCodes_131 : decode cX12_tellsCodes 131 = .ok (.if_icmp .le 27, 3) := by decide +kernel
theorem dX12_tellsCodes_134 : decode cX12_tellsCodes 134 = .ok (.aload_n 0, 1) := by decide +kernel
theorem dX12_tellsCodes_135 : decode cX12_tellsCodes 135 = .ok (.getfield 82, 3) := by decide +kernel
theorem dX12_tellsCodes_138 : decode cX12_tellsCodes 138 = .ok (.bipush 10, 2) := by decide +kernel
theorem dX12_tellsCodes_140 : decode cX12_tellsCodes 140 = .ok (.iload_n 3, 1) := by decide +kernel
theorem dX12_tellsCodes_141 : decode cX12_tellsCodes 141 = .ok (.iadd, 1) := by decide +kernel
theorem dX12_tellsCodes_142 : decode cX12_tellsCodes 142 = .ok (.iaload, 1) := by decide +kernel
theorem dX12_tellsCodes_143 : decode cX12_tellsCodes 143 = .ok (.aload_n 0, 1) := by decide +kernel
theorem dX12_tellsCodes_144 : decode cX12_tellsCodes 144 = .ok (.getfield 82, 3) := by decide +kernel
theorem dX12_tellsCodes_147 : decode cX12_tellsCodes 147 = .ok (.bipush 10, 2) := by decide +kernel
theorem dX12_tellsCodes_149 : decode cX12_tellsCodes 149 = .ok (.iload 4, 2) := by decide +kernel
theorem dX12_tellsCodes_151 : decode cX12_tellsCodes 151 = .ok (.iadd, 1) := by decide +kernel
theorem dX12_tellsCodes_152 : decode cX12_tellsCodes 152 = .ok (.iaload, 1) := by decide +kernel
theorem dX12_tellsCodes_153 : decode cX12_tellsCodes 153 = .ok (.isub, 1) := by decide +kernel
theorem dX12_tellsCodes_154 : decode cX12_tellsCodes 154 = .ok (.i2l, 1) := by decide +kernel
theorem dX12_tellsCodes_155 : decode cX12_tellsCodes 155 = .ok (.goto 24, 3) := by decide +kernel
theorem dX12_tellsCodes_158 : decode cX12_tellsCodes 158 = .ok (.aload_n 0, 1) := by decide +kernel
theorem dX12_tellsCodes_159 : decode cX12_tellsCodes 159 = .ok (.getfield 82, 3) := by decide +kernel
theorem dX12_tellsCodes_162 : decode cX12_tellsCodes 162 = .ok (.bipush 10, 2) := by decide +kernel
theorem dX12_tellsCodes_164 : decode cX12_tellsCodes 164 = .ok (.iload 4, 2) := by decide +kernel
theorem dX12_tellsCodes_166 : decode cX12_tellsCodes 166 = .ok (.iadd, 1) := by decide +kernel
theorem dX12_tellsCodes_167 : decode cX12_tellsCodes 167 = .ok (.iaload, 1) := by decide +kernel
theorem dX12_tellsCodes_168 : decode cX12_tellsCodes 168 = .ok (.aload_n 0, 1) := by decide +kernel
theorem dX12_tellsCodes_169 : decode cX12_tellsCodes 169 = .ok (.getfield 82, 3) := by decide +kernel
theorem dX12_tellsCodes_172 : decode cX12_tellsCodes 172 = .ok (.bipush 10, 2) := by decide +kernel
theorem dX12_tellsCodes_174 : decode cX12_tellsCodes 174 = .ok (.iload_n 3, 1) := by decide +kernel
theorem dX12_tellsCodes_175 : decode cX12_tellsCodes 175 = .ok (.iadd, 1) := by decide +kernel
theorem dX12_tellsCodes_176 : decode cX12_tellsCodes 176 = .ok (.iaload, 1) := by decide +kernel
theorem dX12_tellsCodes_177 : decode cX12_tellsCodes 177 = .ok (.isub, 1) := by decide +kernel
theorem dX12_tellsCodes_178 : decode cX12_tellsCodes 178 = .ok (.i2l, 1) := by decide +kernel
theorem dX12_tellsCodes_179 : decode cX12_tellsCodes 179 = .ok (.invokevirtual 403, 3) := by decide +kernel
theorem dX12_tellsCodes_182 : decode cX12_tellsCodes 182 = .ok (.goto 120, 3) := by decide +kernel
theorem dX12_tellsCodes_185 : decode cX12_tellsCodes 185 = .ok (.iload 6, 2) := by decide +kernel
theorem dX12_tellsCodes_187 : decode cX12_tellsCodes 187 = .ok (.bipush 9, 2) := by decide +kernel
theorem dX12_tellsCodes_189 : decode cX12_tellsCodes 189 = .ok (.if_icmp .ne 17, 3) := by decide +kernel
theorem dX12_tellsCodes_192 : decode cX12_tellsCodes 192 = .ok (.aload_n 0, 1) := by decide +kernel
theorem dX12_tellsCodes_193 : decode cX12_tellsCodes 193 = .ok (.aload_n 0, 1) := by decide +kernel
theorem dX12_tellsCodes_194 : decode cX12_tellsCodes 194 = .ok (.getfield 124, 3) := by decide +kernel
theorem dX12_tellsCodes_197 : decode cX12_tellsCodes 197 = .ok (.iload_n 3, 1) := by decide +kernel
theorem dX12_tellsCodes_198 : decode cX12_tellsCodes 198 = .ok (.iaload, 1) := by decide +kernel
theorem dX12_tellsCodes_199 : decode cX12_tellsCodes 199 = .ok (.i2l, 1) := by decide +kernel
theorem dX12_tellsCodes_200 : decode cX12_tellsCodes 200 = .ok (.invokevirtual 403, 3) := by decide +kernel
theorem dX12_tellsCodes_203 : decode cX12_tellsCodes 203 = .ok (.goto 99, 3) := by decide +kernel
theorem dX12_tellsCodes_206 : decode cX12_tellsCodes 206 = .ok (.iload 6, 2) := by decide +kernel
theorem dX12_tellsCodes_208 : decode cX12_tellsCodes 208 = .ok (.bipush 10, 2) := by decide +kernel
theorem dX12_tellsCodes_210 : decode cX12_tellsCodes 210 = .ok (.if_icmp .ne 18, 3) := by decide +kernel
theorem dX12_tellsCodes_213 : decode cX12_tellsCodes 213 = .ok (.aload_n 0, 1) := by decide +kernel
theorem dX12_tellsCodes_214 : decode cX12_tellsCodes 214 = .ok (.aload_n 0, 1) := by decide +kernel
theorem dX12_tellsCodes_215 : decode cX12_tellsCodes 215 = .ok (.getfield 124, 3) := by decide +kernel
theorem dX12_tellsCodes_218 : decode cX12_tellsCodes 218 = .ok (.iload 4, 2) := by decide +kernel
theorem dX12_tellsCodes_220 : decode cX12_tellsCodes 220 = .ok (.iaload, 1) := by decide +kernel
theorem dX12_tellsCodes_221 : decode cX12_tellsCodes 221 = .ok (.i2l, 1) := by decide +kernel
theorem dX12_tellsCodes_222 : decode cX12_tellsCodes 222 = .ok (.invokevirtual 403, 3) := by decide +kernel
theorem dX12_tellsCodes_225 : decode cX12_tellsCodes 225 = .ok (.goto 77, 3) := by decide +kernel
theorem dX12_tellsCodes_228 : decode cX12_tellsCodes 228 = .ok (.iload 6, 2) := by decide +kernel
theorem dX12_tellsCodes_230 : decode cX12_tellsCodes 230 = .ok (.bipush 18, 2) := by decide +kernel
theorem dX12_tellsCodes_232 : decode cX12_tellsCodes 232 = .ok (.if_icmp .ne 15, 3) := by decide +kernel
theorem dX12_tellsCodes_235 : decode cX12_tellsCodes 235 = .ok (.aload_n 0, 1) := by decide +kernel
theorem dX12_tellsCodes_236 : decode cX12_tellsCodes 236 = .ok (.aload_n 0, 1) := by decide +kernel
theorem dX12_tellsCodes_237 : decode cX12_tellsCodes 237 = .ok (.getfield 389, 3) := by decide +kernel
theorem dX12_tellsCodes_240 : decode cX12_tellsCodes 240 = .ok (.i2l, 1) := by decide +kernel
theorem dX12_tellsCodes_241 : decode cX12_tellsCodes 241 = .ok (.invokevirtual 403, 3) := by decide +kernel
theorem dX12_tellsCodes_244 : decode cX12_tellsCodes 244 = .ok (.goto 58, 3) := by decide +kernel
theorem dX12_tellsCodes_247 : decode cX12_tellsCodes 247 = .ok (.iload 6, 2) := by decide +kernel
theorem dX12_tellsCodes_249 : decode cX12_tellsCodes 249 = .ok (.bipush 17, 2) := by decide +kernel
theorem dX12_tellsCodes_251 : decode cX12_tellsCodes 251 = .ok (.if_icmp .ne 11, 3) := by decide +kernel
theorem dX12_tellsCodes_254 : decode cX12_tellsCodes 254 = .ok (.aload_n 0, 1) := by decide +kernel
theorem dX12_tellsCodes_255 : decode cX12_tellsCodes 255 = .ok (.lconst 1, 1) := by decide +kernel
theorem dX12_tellsCodes_256 : decode cX12_tellsCodes 256 = .ok (.invokevirtual 403, 3) := by decide +kernel
theorem dX12_tellsCodes_259 : decode cX12_tellsCodes 259 = .ok (.goto 43, 3) := by decide +kernel
theorem dX12_tellsCodes_262 : decode cX12_tellsCodes 262 = .ok (.iload 6, 2) := by decide +kernel
theorem dX12_tellsCodes_264 : decode cX12_tellsCodes 264 = .ok (.bipush 16, 2) := by decide +kernel
theorem dX12_tellsCodes_266 : decode cX12_tellsCodes 266 = .ok (.if_icmp .ne 30, 3) := by decide +kernel
theorem dX12_tellsCodes_269 : decode cX12_tellsCodes 269 = .ok (.aload_n 0, 1) := by decide +kernel
theorem dX12_tellsCodes_270 : decode cX12_tellsCodes 270 = .ok (.getfield 130, 3) := by decide +kernel
theorem dX12_tellsCodes_273 : decode cX12_tellsCodes 273 = .ok (.aload_n 0, 1) := by decide +kernel
theorem dX12_tellsCodes_274 : decode cX12_tellsCodes 274 = .ok (.getfield 396, 3) := by decide +kernel
theorem dX12_tellsCodes_277 : decode cX12_tellsCodes 277 = .ok (.iconst 1, 1) := by decide +kernel
theorem dX12_tellsCodes_278 : decode cX12_tellsCodes 278 = .ok (.isub, 1) := by decide +kernel
theorem dX12_tellsCodes_279 : decode cX12_tellsCodes 279 = .ok (.lconst 1, 1) := by decide +kernel
theorem dX12_tellsCodes_280 : decode cX12_tellsCodes 280 = .ok (.aload_n 0, 1) := by decide +kernel
theorem dX12_tellsCodes_281 : decode cX12_tellsCodes 281 = .ok (.getfield 130, 3) := by decide +kernel
theorem dX12_tellsCodes_284 : decode cX12_tellsCodes 284 = .ok (.aload_n 0, 1) := by decide +kernel
theorem dX12_tellsCodes_285 : decode cX12_tellsCodes 285 = .ok (.getfield 396, 3) := by decide +kernel
theorem dX12_tellsCodes_288 : decode cX12_tellsCodes 288 = .ok (.iconst 1, 1) := by decide +kernel
theorem dX12_tellsCodes_289 : decode cX12_tellsCodes 289 = .ok (.isub, 1) := by decide +kernel
theorem dX12_tellsCodes_290 : decode cX12_tellsCodes 290 = .ok (.laload, 1) := by decide +kernel
theorem dX12_tellsCodes_291 : decode cX12_tellsCodes 291 = .ok (.lsub, 1) := by decide +kernel
theorem dX12_tellsCodes_292 : decode cX12_tellsCodes 292 = .ok (.lastore, 1) := by decide +kernel
theorem dX12_tellsCodes_293 : decode cX12_tellsCodes 293 = .ok (.goto 9, 3) := by decide +kernel
theorem dX12_tellsCodes_296 : decode cX12_tellsCodes 296 = .ok (.aload_n 0, 1) := by decide +kernel
theorem dX12_tellsCodes_297 : decode cX12_tellsCodes 297 = .ok (.iload 6, 2) := by decide +kernel
theorem dX12_tellsCodes_299 : decode cX12_tellsCodes 299 = .ok (.invokevirtual 411, 3) := by decide +kernel
theorem dX12_tellsCodes_302 : decode cX12_tellsCodes 302 = .ok (.iinc 5 1, 3) := by decide +kernel
theorem dX12_tellsCodes_305 : decode cX12_tellsCodes 305 = .ok (.goto (-297), 3) := by decide +kernel
theorem dX12_tellsCodes_308 : decode cX12_tellsCodes 308 = .ok (.aload_n 0, 1) := by decide +kernel
theorem dX12_tellsCodes_309 : decode cX12_tellsCodes 309 = .ok (.getfield 130, 3) := by decide +kernel
theorem dX12_tellsCodes_312 : decode cX12_tellsCodes 312 = .ok (.iconst 0, 1) := by decide +kernel
theorem dX12_tellsCodes_313 : decode cX12_tellsCodes 313 = .ok (.laload, 1) := by decide +kernel
theorem dX12_tellsCodes_314 : decode cX12_tellsCodes 314 = .ok (.lreturn, 1) := by decide +kernel
theorem dX12_tellsRule_0 : decode cX12_tellsRule 0 = .ok (.bipush 20, 2) := by decide +kernel
theorem dX12_tellsRule_2 : decode cX12_tellsRule 2 = .ok (.istore 4, 2) := by decide +kernel
theorem dX12_tellsRule_4 : decode cX12_tellsRule 4 = .ok (.iload 4, 2) := by decide +kernel
theorem dX12_tellsRule_6 : decode cX12_tellsRule 6 = .ok (.bipush 20, 2) := by decide +kernel
theorem dX12_tellsRule_8 : decode cX12_tellsRule 8 = .ok (.aload_n 0, 1) := by decide +kernel
theorem dX12_tellsRule_9 : decode cX12_tellsRule 9 = .ok (.getfield 88, 3) := by decide +kernel
theorem dX12_tellsRule_12 : decode cX12_tellsRule 12 = .ok (.iconst 1, 1) := by decide +kernel
theorem dX12_tellsRule_13 : decode cX12_tellsRule 13 = .ok (.iaload, 1) := by decide +kernel
theorem dX12_tellsRule_14 : decode cX12_tellsRule 14 = .ok (.iadd, 1) := by decide +kernel
theorem dX12_tellsRule_15 : decode cX12_tellsRule 15 = .ok (.if_icmp .ge 66, 3) := by decide +kernel
theorem dX12_tellsRule_18 : decode cX12_tellsRule 18 = .ok (.aload_n 0, 1) := by decide +kernel
theorem dX12_tellsRule_19 : decode cX12_tellsRule 19 = .ok (.getfield 91, 3) := by decide +kernel
theorem dX12_tellsRule_22 : decode cX12_tellsRule 22 = .ok (.iload 4, 2) := by decide +kernel
theorem dX12_tellsRule_24 : decode cX12_tellsRule 24 = .ok (.iaload, 1) := by decide +kernel
theorem dX12_tellsRule_25 : decode cX12_tellsRule 25 = .ok (.iload_n 1, 1) := by decide +kernel
theorem dX12_tellsRule_26 : decode cX12_tellsRule 26 = .ok (.if_icmp .ne 49, 3) := by decide +kernel
theorem dX12_tellsRule_29 : decode cX12_tellsRule 29 = .ok (.aload_n 0, 1) := by decide +kernel
theorem dX12_tellsRule_30 : decode cX12_tellsRule 30 = .ok (.aload_n 0, 1) := by decide +kernel
theorem dX12_tellsRule_31 : decode cX12_tellsRule 31 = .ok (.getfield 97, 3) := by decide +kernel
theorem dX12_tellsRule_34 : decode cX12_tellsRule 34 = .ok (.iload 4, 2) := by decide +kernel
theorem dX12_tellsRule_36 : decode cX12_tellsRule 36 = .ok (.iaload, 1) := by decide +kernel
theorem dX12_tellsRule_37 : decode cX12_tellsRule 37 = .ok (.aload_n 0, 1) := by decide +kernel
theorem dX12_tellsRule_38 : decode cX12_tellsRule 38 = .ok (.getfield 100, 3) := by decide +kernel
theorem dX12_tellsRule_41 : decode cX12_tellsRule 41 = .ok (.iload 4, 2) := by decide +kernel
theorem dX12_tellsRule_43 : decode cX12_tellsRule 43 = .ok (.iaload, 1) := by decide +kernel
theorem dX12_tellsRule_44 : decode cX12_tellsRule 44 = .ok (.iload_n 2, 1) := by decide +kernel
theorem dX12_tellsRule_45 : decode cX12_tellsRule 45 = .ok (.iload_n 3, 1) := by decide +kernel
theorem dX12_tellsRule_46 : decode cX12_tellsRule 46 = .ok (.invokevirtual 414, 3) := by decide +kernel
theorem dX12_tellsRule_49 : decode cX12_tellsRule 49 = .ok (.lconst 1, 1) := by decide +kernel
theorem dX12_tellsRule_50 : decode cX12_tellsRule 50 = .ok (.lcmp, 1) := by decide +kernel
theorem dX12_tellsRule_51 : decode cX12_tellsRule 51 = .ok (.ifCond .ne 24, 3) := by decide +kernel
theorem dX12_tellsRule_54 : decode cX12_tellsRule 54 = .ok (.aload_n 0, 1) := by decide +kernel
theorem dX12_tellsRule_55 : decode cX12_tellsRule 55 = .ok (.aload_n 0, 1) := by decide +kernel
theorem dX12_tellsRule_56 : decode cX12_tellsRule 56 = .ok (.getfield 94, 3) := by decide +kernel
theorem dX12_tellsRule_59 : decode cX12_tellsRule 59 = .ok (.iload 4, 2) := by decide +kernel
theorem dX12_tellsRule_61 : decode cX12_tellsRule 61 = .ok (.iaload, 1) := by decide +kernel
theorem dX12_tellsRule_62 : decode cX12_tellsRule 62 = .ok (.aload_n 0, 1) := by decide +kernel
theorem dX12_tellsRule_63 : decode cX12_tellsRule 63 = .ok (.getfield 97, 3) := by decide +kernel
theorem dX12_tellsRule_66 : decode cX12_tellsRule 66 = .ok (.iload 4, 2) := by decide +kernel
theorem dX12_tellsRule_68 : decode cX12_tellsRule 68 = .ok (.iaload, 1) := by decide +kernel
theorem dX12_tellsRule_69 : decode cX12_tellsRule 69 = .ok (.iload_n 2, 1) := by decide +kernel
theorem dX12_tellsRule_70 : decode cX12_tellsRule 70 = .ok (.iload_n 3, 1) := by decide +kernel
theorem dX12_tellsRule_71 : decode cX12_tellsRule 71 = .ok (.invokevirtual 414, 3) := by decide +kernel
theorem dX12_tellsRule_74 : decode cX12_tellsRule 74 = .ok (.lreturn, 1) := by decide +kernel
theorem dX12_tellsRule_75 : decode cX12_tellsRule 75 = .ok (.iinc 4 1, 3) := by decide +kernel
theorem dX12_tellsRule_78 : decode cX12_tellsRule 78 = .ok (.goto (-74), 3) := by decide +kernel
theorem dX12_tellsRule_81 : decode cX12_tellsRule 81 = .ok (.lconst 0, 1) := by decide +kernel
theorem dX12_tellsRule_82 : decode cX12_tellsRule 82 = .ok (.lreturn, 1) := by decide +kernel
theorem dX12_worthTo_0 : decode cX12_worthTo 0 = .ok (.lconst 0, 1) := by decide +kernel
theorem dX12_worthTo_1 : decode cX12_worthTo 1 = .ok (.lstore_n 2, 1) := by decide +kernel
theorem dX12_worthTo_2 : decode cX12_worthTo 2 = .ok (.iconst 0, 1) := by decide +kernel
theorem dX12_worthTo_3 : decode cX12_worthTo 3 = .ok (.istore 4, 2) := by decide +kernel
theorem dX12_worthTo_5 : decode cX12_worthTo 5 = .ok (.iload 4, 2) := by decide +kernel
theorem dX12_worthTo_7 : decode cX12_worthTo 7 = .ok (.aload_n 0, 1) := by decide +kernel
theorem dX12_worthTo_8 : decode cX12_worthTo 8 = .ok (.invokevirtual 345, 3) := by decide +kernel
theorem dX12_worthTo_11 : decode cX12_worthTo 11 = .ok (.if_icmp .ge 72, 3) := by decide +kernel
theorem dX12_worthTo_14 : decode cX12_worthTo 14 = .ok (.iload 4, 2) := by decide +kernel
theorem dX12_worthTo_16 : decode cX12_worthTo 16 = .ok (.iload_n 1, 1) := by decide +kernel
theorem dX12_worthTo_17 : decode cX12_worthTo 17 = .ok (.if_icmp .eq 60, 3) := by decide +kernel
theorem dX12_worthTo_20 : decode cX12_worthTo 20 = .ok (.aload_n 0, 1) := by decide +kernel
theorem dX12_worthTo_21 : decode cX12_worthTo 21 = .ok (.getfield 121, 3) := by decide +kernel
theorem dX12_worthTo_24 : decode cX12_worthTo 24 = .ok (.bipush 10, 2) := by decide +kernel
theorem dX12_worthTo_26 : decode cX12_worthTo 26 = .ok (.iload_n 1, 1) := by decide +kernel
theorem dX12_worthTo_27 : decode cX12_worthTo 27 = .ok (.imul, 1) := by decide +kernel
theorem dX12_worthTo_28 : decode cX12_worthTo 28 = .ok (.iload 4, 2) := by decide +kernel
theorem dX12_worthTo_30 : decode cX12_worthTo 30 = .ok (.iadd, 1) := by decide +kernel
theorem dX12_worthTo_31 : decode cX12_worthTo 31 = .ok (.iaload, 1) := by decide +kernel
theorem dX12_worthTo_32 : decode cX12_worthTo 32 = .ok (.iconst (-1), 1) := by decide +kernel
theorem dX12_worthTo_33 : decode cX12_worthTo 33 = .ok (.if_icmp .ne 6, 3) := by decide +kernel
theorem dX12_worthTo_36 : decode cX12_worthTo 36 = .ok (.goto 41, 3) := by decide +kernel
theorem dX12_worthTo_39 : decode cX12_worthTo 39 = .ok (.lload_n 2, 1) := by decide +kernel
theorem dX12_worthTo_40 : decode cX12_worthTo 40 = .ok (.aload_n 0, 1) := by decide +kernel
theorem dX12_worthTo_41 : decode cX12_worthTo 41 = .ok (.iconst 1, 1) := by decide +kernel
theorem dX12_worthTo_42 : decode cX12_worthTo 42 = .ok (.iload_n 1, 1) := by decide +kernel
theorem dX12_worthTo_43 : decode cX12_worthTo 43 = .ok (.iload 4, 2) := by decide +kernel
theorem dX12_worthTo_45 : decode cX12_worthTo 45 = .ok (.invokevirtual 418, 3) := by decide +kernel
theorem dX12_worthTo_48 : decode cX12_worthTo 48 = .ok (.ladd, 1) := by decide +kernel
theorem dX12_worthTo_49 : decode cX12_worthTo 49 = .ok (.lstore_n 2, 1) := by decide +kernel
theorem dX12_worthTo_50 : decode cX12_worthTo 50 = .ok (.aload_n 0, 1) := by decide +kernel
theorem dX12_worthTo_51 : decode cX12_worthTo 51 = .ok (.getfield 121, 3) := by decide +kernel
theorem dX12_worthTo_54 : decode cX12_worthTo 54 = .ok (.bipush 10, 2) := by decide +kernel
theorem dX12_worthTo_56 : decode cX12_worthTo 56 = .ok (.iload_n 1, 1) := by decide +kernel
theorem dX12_worthTo_57 : decode cX12_worthTo 57 = .ok (.imul, 1) := by decide +kernel
theorem dX12_worthTo_58 : decode cX12_worthTo 58 = .ok (.iload 4, 2) := by decide +kernel
theorem dX12_worthTo_60 : decode cX12_worthTo 60 = .ok (.iadd, 1) := by decide +kernel
theorem dX12_worthTo_61 : decode cX12_worthTo 61 = .ok (.iaload, 1) := by decide +kernel
theorem dX12_worthTo_62 : decode cX12_worthTo 62 = .ok (.iconst 1, 1) := by decide +kernel
theorem dX12_worthTo_63 : decode cX12_worthTo 63 = .ok (.if_icmp .ne 14, 3) := by decide +kernel
theorem dX12_worthTo_66 : decode cX12_worthTo 66 = .ok (.lload_n 2, 1) := by decide +kernel
theorem dX12_worthTo_67 : decode cX12_worthTo 67 = .ok (.aload_n 0, 1) := by decide +kernel
theorem dX12_worthTo_68 : decode cX12_worthTo 68 = .ok (.iconst 0, 1) := by decide +kernel
theorem dX12_worthTo_69 : decode cX12_worthTo 69 = .ok (.iload_n 1, 1) := by decide +kernel
theorem dX12_worthTo_70 : decode cX12_worthTo 70 = .ok (.iload 4, 2) := by decide +kernel
theorem dX12_worthTo_72 : decode cX12_worthTo 72 = .ok (.invokevirtual 418, 3) := by decide +kernel
theorem dX12_worthTo_75 : decode cX12_worthTo 75 = .ok (.lsub, 1) := by decide +kernel
theorem dX12_worthTo_76 : decode cX12_worthTo 76 = .ok (.lstore_n 2, 1) := by decide +kernel
theorem dX12_worthTo_77 : decode cX12_worthTo 77 = .ok (.iinc 4 1, 3) := by decide +kernel
theorem dX12_worthTo_80 : decode cX12_worthTo 80 = .ok (.goto (-75), 3) := by decide +kernel
theorem dX12_worthTo_83 : decode cX12_worthTo 83 = .ok (.lload_n 2, 1) := by decide +kernel
theorem dX12_worthTo_84 : decode cX12_worthTo 84 = .ok (.lreturn, 1) := by decide +kernel
theorem dX12_fillsTable_0 : decode cX12_fillsTable 0 = .ok (.aload_n 0, 1) := by decide +kernel
theorem dX12_fillsTable_1 : decode cX12_fillsTable 1 = .ok (.iconst 1, 1) := by decide +kernel
theorem dX12_fillsTable_2 : decode cX12_fillsTable 2 = .ok (.putfield 329, 3) := by decide +kernel
theorem dX12_fillsTable_5 : decode cX12_fillsTable 5 = .ok (.iconst 0, 1) := by decide +kernel
theorem dX12_fillsTable_6 : decode cX12_fillsTable 6 = .ok (.istore_n 1, 1) := by decide +kernel
theorem dX12_fillsTable_7 : decode cX12_fillsTable 7 = .ok (.iload_n 1, 1) := by decide +kernel
theorem dX12_fillsTable_8 : decode cX12_fillsTable 8 = .ok (.iconst 1, 1) := by decide +kernel
theorem dX12_fillsTable_9 : decode cX12_fillsTable 9 = .ok (.aload_n 0, 1) := by decide +kernel
theorem dX12_fillsTable_10 : decode cX12_fillsTable 10 = .ok (.invokevirtual 355, 3) := by decide +kernel
theorem dX12_fillsTable_13 : decode cX12_fillsTable 13 = .ok (.ishl, 1) := by decide +kernel
theorem dX12_fillsTable_14 : decode cX12_fillsTable 14 = .ok (.if_icmp .ge 46, 3) := by decide +kernel
theorem dX12_fillsTable_17 : decode cX12_fillsTable 17 = .ok (.aload_n 0, 1) := by decide +kernel
theorem dX12_fillsTable_18 : decode cX12_fillsTable 18 = .ok (.iload_n 1, 1) := by decide +kernel
theorem dX12_fillsTable_19 : decode cX12_fillsTable 19 = .ok (.i2l, 1) := by decide +kernel
theorem dX12_fillsTable_20 : decode cX12_fillsTable 20 = .ok (.invokevirtual 422, 3) := by decide +kernel
theorem dX12_fillsTable_23 : decode cX12_fillsTable 23 = .ok (.iconst 0, 1) := by decide +kernel
theorem dX12_fillsTable_24 : decode cX12_fillsTable 24 = .ok (.istore_n 2, 1) := by decide +kernel
theorem dX12_fillsTable_25 : decode cX12_fillsTable 25 = .ok (.iload_n 2, 1) := by decide +kernel
theorem dX12_fillsTable_26 : decode cX12_fillsTable 26 = .ok (.aload_n 0, 1) := by decide +kernel
theorem dX12_fillsTable_27 : decode cX12_fillsTable 27 = .ok (.invokevirtual 345, 3) := by decide +kernel
theorem dX12_fillsTable_30 : decode cX12_fillsTable 30 = .ok (.if_icmp .ge 24, 3) := by decide +kernel
theorem dX12_fillsTable_33 : decode cX12_fillsTable 33 = .ok (.aload_n 0, 1) := by decide +kernel
theorem dX12_fillsTable_34 : decode cX12_fillsTable 34 = .ok (.getfield 133, 3) := by decide +kernel
theorem dX12_fillsTable_37 : decode cX12_fillsTable 37 = .ok (.iconst 5, 1) := by decide +kernel
theorem dX12_fillsTable_38 : decode cX12_fillsTable 38 = .ok (.iload_n 1, 1) := by decide +kernel
theorem dX12_fillsTable_39 : decode cX12_fillsTable 39 = .ok (.imul, 1) := by decide +kernel
theorem dX12_fillsTable_40 : decode cX12_fillsTable 40 = .ok (.iload_n 2, 1) := by decide +kernel
theorem dX12_fillsTable_41 : decode cX12_fillsTable 41 = .ok (.iadd, 1) := by decide +kernel
theorem dX12_fillsTable_42 : decode cX12_fillsTable 42 = .ok (.aload_n 0, 1) := by decide +kernel
theorem dX12_fillsTable_43 : decode cX12_fillsTable 43 = .ok (.iload_n 2, 1) := by decide +kernel
theorem dX12_fillsTable_44 : decode cX12_fillsTable 44 = .ok (.invokevirtual 425, 3) := by decide +kernel
theorem dX12_fillsTable_47 : decode cX12_fillsTable 47 = .ok (.lastore, 1) := by decide +kernel
theorem dX12_fillsTable_48 : decode cX12_fillsTable 48 = .ok (.iinc 2 1, 3) := by decide +kernel
theorem dX12_fillsTable_51 : decode cX12_fillsTable 51 = .ok (.goto (-26), 3) := by decide +kernel
theorem dX12_fillsTable_54 : decode cX12_fillsTable 54 = .ok (.iinc 1 1, 3) := by decide +kernel
theorem dX12_fillsTable_57 : decode cX12_fillsTable 57 = .ok (.goto (-50), 3) := by decide +kernel
theorem dX12_fillsTable_60 : decode cX12_fillsTable 60 = .ok (.return_, 1) := by decide +kernel
theorem dX12_worthOf_0 : decode cX12_worthOf 0 = .ok (.lconst 0, 1) := by decide +kernel
theorem dX12_worthOf_1 : decode cX12_worthOf 1 = .ok (.lstore 4, 2) := by decide +kernel
theorem dX12_worthOf_3 : decode cX12_worthOf 3 = .ok (.aload_n 0, 1) := by decide +kernel
theorem dX12_worthOf_4 : decode cX12_worthOf 4 = .ok (.invokevirtual 345, 3) := by decide +kernel
theorem dX12_worthOf_7 : decode cX12_worthOf 7 = .ok (.iconst 5, 1) := by decide +kernel
theorem dX12_worthOf_8 : decode cX12_worthOf 8 = .ok (.if_icmp .gt 30, 3) := by decide +kernel
theorem dX12_worthOf_11 : decode cX12_worthOf 11 = .ok (.aload_n 0, 1) := by decide +kernel
theorem dX12_worthOf_12 : decode cX12_worthOf 12 = .ok (.getfield 329, 3) := by decide +kernel
theorem dX12_worthOf_15 : decode cX12_worthOf 15 = .ok (.ifCond .ne 7, 3) := by decide +kernel
theorem dX12_worthOf_18 : decode cX12_worthOf 18 = .ok (.aload_n 0, 1) := by decide +kernel
theorem dX12_worthOf_19 : decode cX12_worthOf 19 = .ok (.invokevirtual 428, 3) := by decide +kernel
theorem dX12_worthOf_22 : decode cX12_worthOf 22 = .ok (.aload_n 0, 1) := by decide +kernel
theorem dX12_worthOf_23 : decode cX12_worthOf 23 = .ok (.getfield 133, 3) := by decide +kernel
theorem dX12_worthOf_26 : decode cX12_worthOf 26 = .ok (.iconst 5, 1) := by decide +kernel
theorem dX12_worthOf_27 : decode cX12_worthOf 27 = .ok (.lload_n 1, 1) := by decide +kernel
theorem dX12_worthOf_28 : decode cX12_worthOf 28 = .ok (.l2i, 1) := by decide +kernel
theorem dX12_worthOf_29 : decode cX12_worthOf 29 = .ok (.imul, 1) := by decide +kernel
theorem dX12_worthOf_30 : decode cX12_worthOf 30 = .ok (.iload_n 3, 1) := by decide +kernel
theorem dX12_worthOf_31 : decode cX12_worthOf 31 = .ok (.iadd, 1) := by decide +kernel
theorem dX12_worthOf_32 : decode cX12_worthOf 32 = .ok (.laload, 1) := by decide +kernel
theorem dX12_worthOf_33 : decode cX12_worthOf 33 = .ok (.lstore 4, 2) := by decide +kernel
theorem dX12_worthOf_35 : decode cX12_worthOf 35 = .ok (.goto 24, 3) := by decide +kernel
theorem dX12_worthOf_38 : decode cX12_worthOf 38 = .ok (.aload_n 0, 1) := by decide +kernel
theorem dX12_worthOf_39 : decode cX12_worthOf 39 = .ok (.getfield 117, 3) := by decide +kernel
theorem dX12_worthOf_42 : decode cX12_worthOf 42 = .ok (.lload_n 1, 1) := by decide +kernel
theorem dX12_worthOf_43 : decode cX12_worthOf 43 = .ok (.lcmp, 1) := by decide +kernel
theorem dX12_worthOf_44 : decode cX12_worthOf 44 = .ok (.ifCond .eq 8, 3) := by decide +kernel
theorem dX12_worthOf_47 : decode cX12_worthOf 47 = .ok (.aload_n 0, 1) := by decide +kernel
theorem dX12_worthOf_48 : decode cX12_worthOf 48 = .ok (.lload_n 1, 1) := by decide +kernel
theorem dX12_worthOf_49 : decode cX12_worthOf 49 = .ok (.invokevirtual 422, 3) := by decide +kernel
theorem dX12_worthOf_52 : decode cX12_worthOf 52 = .ok (.aload_n 0, 1) := by decide +kernel
theorem dX12_worthOf_53 : decode cX12_worthOf 53 = .ok (.iload_n 3, 1) := by decide +kernel
theorem dX12_worthOf_54 : decode cX12_worthOf 54 = .ok (.invokevirtual 425, 3) := by decide +kernel
theorem dX12_worthOf_57 : decode cX12_worthOf 57 = .ok (.lstore 4, 2) := by decide +kernel
theorem dX12_worthOf_59 : decode cX12_worthOf 59 = .ok (.lload 4, 2) := by decide +kernel
theorem dX12_worthOf_61 : decode cX12_worthOf 61 = .ok (.aload_n 0, 1) := by decide +kernel
theorem dX12_worthOf_62 : decode cX12_worthOf 62 = .ok (.lload_n 1, 1) := by decide +kernel
theorem dX12_worthOf_63 : decode cX12_worthOf 63 = .ok (.iload_n 3, 1) := by decide +kernel
theorem dX12_worthOf_64 : decode cX12_worthOf 64 = .ok (.invokevirtual 358, 3) := by decide +kernel
theorem dX12_worthOf_67 : decode cX12_worthOf 67 = .ok (.i2l, 1) := by decide +kernel
theorem dX12_worthOf_68 : decode cX12_worthOf 68 = .ok (.aload_n 0, 1) := by decide +kernel
theorem dX12_worthOf_69 : decode cX12_worthOf 69 = .ok (.getfield 326, 3) := by decide +kernel
theorem dX12_worthOf_72 : decode cX12_worthOf 72 = .ok (.iload_n 3, 1) := by decide +kernel
theorem dX12_worthOf_73 : decode cX12_worthOf 73 = .ok (.aload_n 0, 1) := by decide +kernel
theorem dX12_worthOf_74 : decode cX12_worthOf 74 = .ok (.getfield 127, 3) := by decide +kernel
theorem dX12_worthOf_77 : decode cX12_worthOf 77 = .ok (.if_icmp .ne 10, 3) := by decide +kernel
theorem dX12_worthOf_80 : decode cX12_worthOf 80 = .ok (.aload_n 0, 1) := by decide +kernel
theorem dX12_worthOf_81 : decode cX12_worthOf 81 = .ok (.getfield 431, 3) := by decide +kernel
theorem dX12_worthOf_84 : decode cX12_worthOf 84 = .ok (.goto 4, 3) := by decide +kernel
theorem dX12_worthOf_87 : decode cX12_worthOf 87 = .ok (.iconst 0, 1) := by decide +kernel
theorem dX12_worthOf_88 : decode cX12_worthOf 88 = .ok (.iadd, 1) := by decide +kernel
theorem dX12_worthOf_89 : decode cX12_worthOf 89 = .ok (.i2l, 1) := by decide +kernel
theorem dX12_worthOf_90 : decode cX12_worthOf 90 = .ok (.lmul, 1) := by decide +kernel
theorem dX12_worthOf_91 : decode cX12_worthOf 91 = .ok (.lsub, 1) := by decide +kernel
theorem dX12_worthOf_92 : decode cX12_worthOf 92 = .ok (.lreturn, 1) := by decide +kernel
theorem dX12_worthOfAll_0 : decode cX12_worthOfAll 0 = .ok (.lconst 0, 1) := by decide +kernel
theorem dX12_worthOfAll_1 : decode cX12_worthOfAll 1 = .ok (.lstore_n 3, 1) := by decide +kernel
theorem dX12_worthOfAll_2 : decode cX12_worthOfAll 2 = .ok (.iconst 0, 1) := by decide +kernel
theorem dX12_worthOfAll_3 : decode cX12_worthOfAll 3 = .ok (.istore 5, 2) := by decide +kernel
theorem dX12_worthOfAll_5 : decode cX12_worthOfAll 5 = .ok (.iload 5, 2) := by decide +kernel
theorem dX12_worthOfAll_7 : decode cX12_worthOfAll 7 = .ok (.aload_n 0, 1) := by decide +kernel
theorem dX12_worthOfAll_8 : decode cX12_worthOfAll 8 = .ok (.invokevirtual 345, 3) := by decide +kernel
theorem dX12_worthOfAll_11 : decode cX12_worthOfAll 11 = .ok (.if_icmp .ge 19, 3) := by decide +kernel
theorem dX12_worthOfAll_14 : decode cX12_worthOfAll 14 = .ok (.lload_n 3, 1) := by decide +kernel
theorem dX12_worthOfAll_15 : decode cX12_worthOfAll 15 = .ok (.aload_n 0, 1) := by decide +kernel
theorem dX12_worthOfAll_16 : decode cX12_worthOfAll 16 = .ok (.lload_n 1, 1) := by decide +kernel
theorem dX12_worthOfAll_17 : decode cX12_worthOfAll 17 = .ok (.iload 5, 2) := by decide +kernel
theorem dX12_worthOfAll_19 : decode cX12_worthOfAll 19 = .ok (.invokevirtual 434, 3) := by decide +kernel
theorem dX12_worthOfAll_22 : decode cX12_worthOfAll 22 = .ok (.ladd, 1) := by decide +kernel
theorem dX12_worthOfAll_23 : decode cX12_worthOfAll 23 = .ok (.lstore_n 3, 1) := by decide +kernel
theorem dX12_worthOfAll_24 : decode cX12_worthOfAll 24 = .ok (.iinc 5 1, 3) := by decide +kernel
theorem dX12_worthOfAll_27 : decode cX12_worthOfAll 27 = .ok (.goto (-22), 3) := by decide +kernel
theorem dX12_worthOfAll_30 : decode cX12_worthOfAll 30 = .ok (.lload_n 3, 1) := by decide +kernel
theorem dX12_worthOfAll_31 : decode cX12_worthOfAll 31 = .ok (.lreturn, 1) := by decide +kernel
theorem dX12_worth_0 : decode cX12_worth 0 = .ok (.iload_n 1, 1) := by decide +kernel
theorem dX12_worth_1 : decode cX12_worth 1 = .ok (.iconst (-1), 1) := by decide +kernel
theorem dX12_worth_2 : decode cX12_worth 2 = .ok (.if_icmp .ne 14, 3) := by decide +kernel
theorem dX12_worth_5 : decode cX12_worth 5 = .ok (.aload_n 0, 1) := by decide +kernel
theorem dX12_worth_6 : decode cX12_worth 6 = .ok (.aload_n 0, 1) := by decide +kernel
theorem dX12_worth_7 : decode cX12_worth 7 = .ok (.getfield 323, 3) := by decide +kernel
theorem dX12_worth_10 : decode cX12_worth 10 = .ok (.invokevirtual 438, 3) := by decide +kernel
theorem dX12_worth_13 : decode cX12_worth 13 = .ok (.goto 26, 3) := by decide +kernel
theorem dX12_worth_16 : decode cX12_worth 16 = .ok (.aload_n 0, 1) := by decide +kernel
theorem dX12_worth_17 : decode cX12_worth 17 = .ok (.iload_n 1, 1) := by decide +kernel
theorem dX12_worth_18 : decode cX12_worth 18 = .ok (.invokevirtual 365, 3) := by decide +kernel
theorem dX12_worth_21 : decode cX12_worth 21 = .ok (.ifCond .eq 15, 3) := by decide +kernel
theorem dX12_worth_24 : decode cX12_worth 24 = .ok (.aload_n 0, 1) := by decide +kernel
theorem dX12_worth_25 : decode cX12_worth 25 = .ok (.aload_n 0, 1) := by decide +kernel
theorem dX12_worth_26 : decode cX12_worth 26 = .ok (.getfield 323, 3) := by decide +kernel
theorem dX12_worth_29 : decode cX12_worth 29 = .ok (.iload_n 1, 1) := by decide +kernel
theorem dX12_worth_30 : decode cX12_worth 30 = .ok (.invokevirtual 434, 3) := by decide +kernel
theorem dX12_worth_33 : decode cX12_worth 33 = .ok (.goto 6, 3) := by decide +kernel
theorem dX12_worth_36 : decode cX12_worth 36 = .ok (.ldc2_w 441, 3) := by decide +kernel
theorem dX12_worth_39 : decode cX12_worth 39 = .ok (.lreturn, 1) := by decide +kernel
theorem dX12_ways_0 : decode cX12_ways 0 = .ok (.aload_n 0, 1) := by decide +kernel
theorem dX12_ways_1 : decode cX12_ways 1 = .ok (.iload_n 1, 1) := by decide +kernel
theorem dX12_ways_2 : decode cX12_ways 2 = .ok (.invokevirtual 365, 3) := by decide +kernel
theorem dX12_ways_5 : decode cX12_ways 5 = .ok (.ifCond .eq 11, 3) := by decide +kernel
theorem dX12_ways_8 : decode cX12_ways 8 = .ok (.aload_n 0, 1) := by decide +kernel
theorem dX12_ways_9 : decode cX12_ways 9 = .ok (.iload_n 2, 1) := by decide +kernel
theorem dX12_ways_10 : decode cX12_ways 10 = .ok (.invokevirtual 365, 3) := by decide +kernel
theorem dX12_ways_13 : decode cX12_ways 13 = .ok (.ifCond .ne 5, 3) := by decide +kernel
theorem dX12_ways_16 : decode cX12_ways 16 = .ok (.iconst (-1), 1) := by decide +kernel
theorem dX12_ways_17 : decode cX12_ways 17 = .ok (.ireturn, 1) := by decide +kernel
theorem dX12_ways_18 : decode cX12_ways 18 = .ok (.aload_n 0, 1) := by decide +kernel
theorem dX12_ways_19 : decode cX12_ways 19 = .ok (.aload_n 0, 1) := by decide +kernel
theorem dX12_ways_20 : decode cX12_ways 20 = .ok (.getfield 323, 3) := by decide +kernel
theorem dX12_ways_23 : decode cX12_ways 23 = .ok (.invokevirtual 422, 3) := by decide +kernel
theorem dX12_ways_26 : decode cX12_ways 26 = .ok (.aload_n 0, 1) := by decide +kernel
theorem dX12_ways_27 : decode cX12_ways 27 = .ok (.getfield 121, 3) := by decide +kernel
theorem dX12_ways_30 : decode cX12_ways 30 = .ok (.bipush 10, 2) := by decide +kernel
theorem dX12_ways_32 : decode cX12_ways 32 = .ok (.iload_n 1, 1) := by decide +kernel
theorem dX12_ways_33 : decode cX12_ways 33 = .ok (.imul, 1) := by decide +kernel
theorem dX12_ways_34 : decode cX12_ways 34 = .ok (.iload_n 2, 1) := by decide +kernel
theorem dX12_ways_35 : decode cX12_ways 35 = .ok (.iadd, 1) := by decide +kernel
theorem dX12_ways_36 : decode cX12_ways 36 = .ok (.iaload, 1) := by decide +kernel
theorem dX12_ways_37 : decode cX12_ways 37 = .ok (.ireturn, 1) := by decide +kernel
theorem dX12_begins_0 : decode cX12_begins 0 = .ok (.iconst 0, 1) := by decide +kernel
theorem dX12_begins_1 : decode cX12_begins 1 = .ok (.istore_n 3, 1) := by decide +kernel
theorem dX12_begins_2 : decode cX12_begins 2 = .ok (.iload_n 3, 1) := by decide +kernel
theorem dX12_begins_3 : decode cX12_begins 3 = .ok (.aload_n 0, 1) := by decide +kernel
theorem dX12_begins_4 : decode cX12_begins 4 = .ok (.invokevirtual 345, 3) := by decide +kernel
theorem dX12_begins_7 : decode cX12_begins 7 = .ok (.if_icmp .ge 21, 3) := by decide +kernel
theorem dX12_begins_10 : decode cX12_begins 10 = .ok (.aload_n 0, 1) := by decide +kernel
theorem dX12_begins_11 : decode cX12_begins 11 = .ok (.getfield 136, 3) := by decide +kernel
theorem dX12_begins_14 : decode cX12_begins 14 = .ok (.iload_n 3, 1) := by decide +kernel
theorem dX12_begins_15 : decode cX12_begins 15 = .ok (.aload_n 0, 1) := by decide +kernel
theorem dX12_begins_16 : decode cX12_begins 16 = .ok (.lload_n 1, 1) := by decide +kernel
theorem dX12_begins_17 : decode cX12_begins 17 = .ok (.iload_n 3, 1) := by decide +kernel
theorem dX12_begins_18 : decode cX12_begins 18 = .ok (.invokevirtual 434, 3) := by decide +kernel
theorem dX12_begins_21 : decode cX12_begins 21 = .ok (.lastore, 1) := by decide +kernel
theorem dX12_begins_22 : decode cX12_begins 22 = .ok (.iinc 3 1, 3) := by decide +kernel
theorem dX12_begins_25 : decode cX12_begins 25 = .ok (.goto (-23), 3) := by decide +kernel
theorem dX12_begins_28 : decode cX12_begins 28 = .ok (.return_, 1) := by decide +kernel
theorem dX12_finds_0 : decode cX12_finds 0 = .ok (.aload_n 0, 1) := by decide +kernel
theorem dX12_finds_1 : decode cX12_finds 1 = .ok (.iload_n 1, 1) := by decide +kernel
theorem dX12_finds_2 : decode cX12_finds 2 = .ok (.putfield 443, 3) := by decide +kernel
theorem dX12_finds_5 : decode cX12_finds 5 = .ok (.aload_n 0, 1) := by decide +kernel
theorem dX12_finds_6 : decode cX12_finds 6 = .ok (.iload_n 2, 1) := by decide +kernel
theorem dX12_finds_7 : decode cX12_finds 7 = .ok (.putfield 446, 3) := by decide +kernel
theorem dX12_finds_10 : decode cX12_finds 10 = .ok (.aload_n 0, 1) := by decide +kernel
theorem dX12_finds_11 : decode cX12_finds 11 = .ok (.lload_n 3, 1) := by decide +kernel
theorem dX12_finds_12 : decode cX12_finds 12 = .ok (.putfield 449, 3) := by decide +kernel
theorem dX12_finds_15 : decode cX12_finds 15 = .ok (.iconst 1, 1) := by decide +kernel
theorem dX12_finds_16 : decode cX12_finds 16 = .ok (.ireturn, 1) := by decide +kernel
theorem dX12_gains_0 : decode cX12_gains 0 = .ok (.aload_n 0, 1) := by decide +kernel
theorem dX12_gains_1 : decode cX12_gains 1 = .ok (.lload_n 1, 1) := by decide +kernel
theorem dX12_gains_2 : decode cX12_gains 2 = .ok (.iload_n 3, 1) := by decide +kernel
theorem dX12_gains_3 : decode cX12_gains 3 = .ok (.invokevirtual 434, 3) := by decide +kernel
theorem dX12_gains_6 : decode cX12_gains 6 = .ok (.aload_n 0, 1) := by decide +kernel
theorem dX12_gains_7 : decode cX12_gains 7 = .ok (.getfield 136, 3) := by decide +kernel
theorem dX12_gains_10 : decode cX12_gains 10 = .ok (.iload_n 3, 1) := by decide +kernel
theorem dX12_gains_11 : decode cX12_gains 11 = .ok (.laload, 1) := by decide +kernel
theorem dX12_gains_12 : decode cX12_gains 12 = .ok (.lcmp, 1) := by decide +kernel
theorem dX12_gains_13 : decode cX12_gains 13 = .ok (.ifCond .le 7, 3) := by decide +kernel
theorem dX12_gains_16 : decode cX12_gains 16 = .ok (.iconst 1, 1) := by decide +kernel
theorem dX12_gains_17 : decode cX12_gains 17 = .ok (.goto 4, 3) := by decide +kernel
theorem dX12_gains_20 : decode cX12_gains 20 = .ok (.iconst 0, 1) := by decide +kernel
theorem dX12_gains_21 : decode cX12_gains 21 = .ok (.ireturn, 1) := by decide +kernel
theorem dX12_cutter_0 : decode cX12_cutter 0 = .ok (.lload_n 1, 1) := by decide +kernel
theorem dX12_cutter_1 : decode cX12_cutter 1 = .ok (.lconst 1, 1) := by decide +kernel
theorem dX12_cutter_2 : decode cX12_cutter 2 = .ok (.iload_n 3, 1) := by decide +kernel
theorem dX12_cutter_3 : decode cX12_cutter 3 = .ok (.lshl, 1) := by decide +kernel
theorem dX12_cutter_4 : decode cX12_cutter 4 = .ok (.ldc2_w 115, 3) := by decide +kernel
theorem dX12_cutter_7 : decode cX12_cutter 7 = .ok (.lxor, 1) := by decide +kernel
theorem dX12_cutter_8 : decode cX12_cutter 8 = .ok (.land, 1) := by decide +kernel
theorem dX12_cutter_9 : decode cX12_cutter 9 = .ok (.lstore 4, 2) := by decide +kernel
theorem dX12_cutter_11 : decode cX12_cutter 11 = .ok (.iload_n 3, 1) := by decide +kernel
theorem dX12_cutter_12 : decode cX12_cutter 12 = .ok (.invokestatic 452, 3) := by decide +kernel
theorem dX12_cutter_15 : decode cX12_cutter 15 = .ok (.istore 6, 2) := by decide +kernel
theorem dX12_cutter_17 : decode cX12_cutter 17 = .ok (.iload_n 3, 1) := by decide +kernel
theorem dX12_cutter_18 : decode cX12_cutter 18 = .ok (.invokestatic 348, 3) := by decide +kernel
theorem dX12_cutter_21 : decode cX12_cutter 21 = .ok (.istore 7, 2) := by decide +kernel
theorem dX12_cutter_23 : decode cX12_cutter 23 = .ok (.aload_n 0, 1) := by decide +kernel
theorem dX12_cutter_24 : decode cX12_cutter 24 = .ok (.lload 4, 2) := by decide +kernel
theorem dX12_cutter_26 : decode cX12_cutter 26 = .ok (.iload 6, 2) := by decide +kernel
theorem dX12_cutter_28 : decode cX12_cutter 28 = .ok (.invokevirtual 455, 3) := by decide +kernel
theorem dX12_cutter_31 : decode cX12_cutter 31 = .ok (.ifCond .eq 8, 3) := by decide +kernel
theorem dX12_cutter_34 : decode cX12_cutter 34 = .ok (.iload 6, 2) := by decide +kernel
theorem dX12_cutter_36 : decode cX12_cutter 36 = .ok (.goto 20, 3) := by decide +kernel
theorem dX12_cutter_39 : decode cX12_cutter 39 = .ok (.aload_n 0, 1) := by decide +kernel
theorem dX12_cutter_40 : decode cX12_cutter 40 = .ok (.lload 4, 2) := by decide +kernel
theorem dX12_cutter_42 : decode cX12_cutter 42 = .ok (.iload 7, 2) := by decide +kernel
theorem dX12_cutter_44 : decode cX12_cutter 44 = .ok (.invokevirtual 455, 3) := by decide +kernel
theorem dX12_cutter_47 : decode cX12_cutter 47 = .ok (.ifCond .eq 8, 3) := by decide +kernel
theorem dX12_cutter_50 : decode cX12_cutter 50 = .ok (.iload 7, 2) := by decide +kernel
theorem dX12_cutter_52 : decode cX12_cutter 52 = .ok (.goto 4, 3) := by decide +kernel
theorem dX12_cutter_55 : decode cX12_cutter 55 = .ok (.iconst (-1), 1) := by decide +kernel
theorem dX12_cutter_56 : decode cX12_cutter 56 = .ok (.ireturn, 1) := by decide +kernel
theorem dX12_isAdd_0 : decode cX12_isAdd 0 = .ok (.lload_n 1, 1) := by decide +kernel
theorem dX12_isAdd_1 : decode cX12_isAdd 1 = .ok (.lconst 1, 1) := by decide +kernel
theorem dX12_isAdd_2 : decode cX12_isAdd 2 = .ok (.iload_n 3, 1) := by decide +kernel
theorem dX12_isAdd_3 : decode cX12_isAdd 3 = .ok (.lshl, 1) := by decide +kernel
theorem dX12_isAdd_4 : decode cX12_isAdd 4 = .ok (.lor, 1) := by decide +kernel
theorem dX12_isAdd_5 : decode cX12_isAdd 5 = .ok (.lstore 4, 2) := by decide +kernel
theorem dX12_isAdd_7 : decode cX12_isAdd 7 = .ok (.aload_n 0, 1) := by decide +kernel
theorem dX12_isAdd_8 : decode cX12_isAdd 8 = .ok (.lload 4, 2) := by decide +kernel
theorem dX12_isAdd_10 : decode cX12_isAdd 10 = .ok (.invokevirtual 370, 3) := by decide +kernel
theorem dX12_isAdd_13 : decode cX12_isAdd 13 = .ok (.ifCond .ne 5, 3) := by decide +kernel
theorem dX12_isAdd_16 : decode cX12_isAdd 16 = .ok (.iconst 0, 1) := by decide +kernel
theorem dX12_isAdd_17 : decode cX12_isAdd 17 = .ok (.ireturn, 1) := by decide +kernel
theorem dX12_isAdd_18 : decode cX12_isAdd 18 = .ok (.aload_n 0, 1) := by decide +kernel
theorem dX12_isAdd_19 : decode cX12_isAdd 19 = .ok (.lload 4, 2) := by decide +kernel
theorem dX12_isAdd_21 : decode cX12_isAdd 21 = .ok (.iload_n 3, 1) := by decide +kernel
theorem dX12_isAdd_22 : decode cX12_isAdd 22 = .ok (.invokestatic 452, 3) := by decide +kernel
theorem dX12_isAdd_25 : decode cX12_isAdd 25 = .ok (.invokevirtual 434, 3) := by decide +kernel
theorem dX12_isAdd_28 : decode cX12_isAdd 28 = .ok (.aload_n 0, 1) := by decide +kernel
theorem dX12_isAdd_29 : decode cX12_isAdd 29 = .ok (.getfield 136, 3) := by decide +kernel
theorem dX12_isAdd_32 : decode cX12_isAdd 32 = .ok (.iload_n 3, 1) := by decide +kernel
theorem dX12_isAdd_33 : decode cX12_isAdd 33 = .ok (.invokestatic 452, 3) := by decide +kernel
theorem dX12_isAdd_36 : decode cX12_isAdd 36 = .ok (.laload, 1) := by decide +kernel
theorem dX12_isAdd_37 : decode cX12_isAdd 37 = .ok (.lsub, 1) := by decide +kernel
theorem dX12_isAdd_38 : decode cX12_isAdd 38 = .ok (.lstore 6, 2) := by decide +kernel
theorem dX12_isAdd_40 : decode cX12_isAdd 40 = .ok (.aload_n 0, 1) := by decide +kernel
theorem dX12_isAdd_41 : decode cX12_isAdd 41 = .ok (.lload 4, 2) := by decide +kernel
theorem dX12_isAdd_43 : decode cX12_isAdd 43 = .ok (.iload_n 3, 1) := by decide +kernel
theorem dX12_isAdd_44 : decode cX12_isAdd 44 = .ok (.invokestatic 348, 3) := by decide +kernel
theorem dX12_isAdd_47 : decode cX12_isAdd 47 = .ok (.invokevirtual 434, 3) := by decide +kernel
theorem dX12_isAdd_50 : decode cX12_isAdd 50 = .ok (.aload_n 0, 1) := by decide +kernel
theorem dX12_isAdd_51 : decode cX12_isAdd 51 = .ok (.getfield 136, 3) := by decide +kernel
theorem dX12_isAdd_54 : decode cX12_isAdd 54 = .ok (.iload_n 3, 1) := by decide +kernel
theorem dX12_isAdd_55 : decode cX12_isAdd 55 = .ok (.invokestatic 348, 3) := by decide +kernel
theorem dX12_isAdd_58 : decode cX12_isAdd 58 = .ok (.laload, 1) := by decide +kernel
theorem dX12_isAdd_59 : decode cX12_isAdd 59 = .ok (.lsub, 1) := by decide +kernel
theorem dX12_isAdd_60 : decode cX12_isAdd 60 = .ok (.lstore 8, 2) := by decide +kernel
theorem dX12_isAdd_62 : decode cX12_isAdd 62 = .ok (.lload 6, 2) := by decide +kernel
theorem dX12_isAdd_64 : decode cX12_isAdd 64 = .ok (.lconst 0, 1) := by decide +kernel
theorem dX12_isAdd_65 : decode cX12_isAdd 65 = .ok (.lcmp, 1) := by decide +kernel
theorem dX12_isAdd_66 : decode cX12_isAdd 66 = .ok (.ifCond .lt 24, 3) := by decide +kernel
theorem dX12_isAdd_69 : decode cX12_isAdd 69 = .ok (.lload 8, 2) := by decide +kernel
theorem dX12_isAdd_71 : decode cX12_isAdd 71 = .ok (.lconst 0, 1) := by decide +kernel
theorem dX12_isAdd_72 : decode cX12_isAdd 72 = .ok (.lcmp, 1) := by decide +kernel
theorem dX12_isAdd_73 : decode cX12_isAdd 73 = .ok (.ifCond .lt 17, 3) := by decide +kernel
theorem dX12_isAdd_76 : decode cX12_isAdd 76 = .ok (.lload 6, 2) := by decide +kernel
theorem dX12_isAdd_78 : decode cX12_isAdd 78 = .ok (.lload 8, 2) := by decide +kernel
theorem dX12_isAdd_80 : decode cX12_isAdd 80 = .ok (.ladd, 1) := by decide +kernel
theorem dX12_isAdd_81 : decode cX12_isAdd 81 = .ok (.lconst 0, 1) := by decide +kernel
theorem dX12_isAdd_82 : decode cX12_isAdd 82 = .ok (.lcmp, 1) := by decide +kernel
theorem dX12_isAdd_83 : decode cX12_isAdd 83 = .ok (.ifCond .le 7, 3) := by decide +kernel
theorem dX12_isAdd_86 : decode cX12_isAdd 86 = .ok (.iconst 1, 1) := by decide +kernel
theorem dX12_isAdd_87 : decode cX12_isAdd 87 = .ok (.goto 4, 3) := by decide +kernel
theorem dX12_isAdd_90 : decode cX12_isAdd 90 = .ok (.iconst 0, 1) := by decide +kernel
theorem dX12_isAdd_91 : decode cX12_isAdd 91 = .ok (.ireturn, 1) := by decide +kernel
theorem dX12_findsCut_0 : decode cX12_findsCut 0 = .ok (.iconst 0, 1) := by decide +kernel
theorem dX12_findsCut_1 : decode cX12_findsCut 1 = .ok (.istore_n 3, 1) := by decide +kernel
theorem dX12_findsCut_2 : decode cX12_findsCut 2 = .ok (.iload_n 3, 1) := by decide +kernel
theorem dX12_findsCut_3 : decode cX12_findsCut 3 = .ok (.aload_n 0, 1) := by decide +kernel
theorem dX12_findsCut_4 : decode cX12_findsCut 4 = .ok (.invokevirtual 355, 3) := by decide +kernel
theorem dX12_findsCut_7 : decode cX12_findsCut 7 = .ok (.if_icmp .ge 54, 3) := by decide +kernel
theorem dX12_findsCut_10 : decode cX12_findsCut 10 = .ok (.lload_n 1, 1) := by decide +kernel
theorem dX12_findsCut_11 : decode cX12_findsCut 11 = .ok (.iload_n 3, 1) := by decide +kernel
theorem dX12_findsCut_12 : decode cX12_findsCut 12 = .ok (.invokestatic 351, 3) := by decide +kernel
theorem dX12_findsCut_15 : decode cX12_findsCut 15 = .ok (.ifCond .eq 12, 3) := by decide +kernel
theorem dX12_findsCut_18 : decode cX12_findsCut 18 = .ok (.aload_n 0, 1) := by decide +kernel
theorem dX12_findsCut_19 : decode cX12_findsCut 19 = .ok (.lload_n 1, 1) := by decide +kernel
theorem dX12_findsCut_20 : decode cX12_findsCut 20 = .ok (.iload_n 3, 1) := by decide +kernel
theorem dX12_findsCut_21 : decode cX12_findsCut 21 = .ok (.invokevirtual 458, 3) := by decide +kernel
theorem dX12_findsCut_24 : decode cX12_findsCut 24 = .ok (.goto 4, 3) := by decide +kernel
theorem dX12_findsCut_27 : decode cX12_findsCut 27 = .ok (.iconst (-1), 1) := by decide +kernel
theorem dX12_findsCut_28 : decode cX12_findsCut 28 = .ok (.istore 4, 2) := by decide +kernel
theorem dX12_findsCut_30 : decode cX12_findsCut 30 = .ok (.iload 4, 2) := by decide +kernel
theorem dX12_findsCut_32 : decode cX12_findsCut 32 = .ok (.iconst (-1), 1) := by decide +kernel
theorem dX12_findsCut_33 : decode cX12_findsCut 33 = .ok (.if_icmp .eq 22, 3) := by decide +kernel
theorem dX12_findsCut_36 : decode cX12_findsCut 36 = .ok (.aload_n 0, 1) := by decide +kernel
theorem dX12_findsCut_37 : decode cX12_findsCut 37 = .ok (.iconst 0, 1) := by decide +kernel
theorem dX12_findsCut_38 : decode cX12_findsCut 38 = .ok (.iconst 1, 1) := by decide +kernel
theorem dX12_findsCut_39 : decode cX12_findsCut 39 = .ok (.iload 4, 2) := by decide +kernel
theorem dX12_findsCut_41 : decode cX12_findsCut 41 = .ok (.ishl, 1) := by decide +kernel
theorem dX12_findsCut_42 : decode cX12_findsCut 42 = .ok (.lload_n 1, 1) := by decide +kernel
theorem dX12_findsCut_43 : decode cX12_findsCut 43 = .ok (.lconst 1, 1) := by decide +kernel
theorem dX12_findsCut_44 : decode cX12_findsCut 44 = .ok (.iload_n 3, 1) := by decide +kernel
theorem dX12_findsCut_45 : decode cX12_findsCut 45 = .ok (.lshl, 1) := by decide +kernel
theorem dX12_findsCut_46 : decode cX12_findsCut 46 = .ok (.ldc2_w 115, 3) := by decide +kernel
theorem dX12_findsCut_49 : decode cX12_findsCut 49 = .ok (.lxor, 1) := by decide +kernel
theorem dX12_findsCut_50 : decode cX12_findsCut 50 = .ok (.land, 1) := by decide +kernel
theorem dX12_findsCut_51 : decode cX12_findsCut 51 = .ok (.invokevirtual 461, 3) := by decide +kernel
theorem dX12_findsCut_54 : decode cX12_findsCut 54 = .ok (.ireturn, 1) := by decide +kernel
theorem dX12_findsCut_55 : decode cX12_findsCut 55 = .ok (.iinc 3 1, 3) := by decide +kernel
theorem dX12_findsCut_58 : decode cX12_findsCut 58 = .ok (.goto (-56), 3) := by decide +kernel
theorem dX12_findsCut_61 : decode cX12_findsCut 61 = .ok (.iconst 0, 1) := by decide +kernel
theorem dX12_findsCut_62 : decode cX12_findsCut 62 = .ok (.ireturn, 1) := by decide +kernel
theorem dX12_findsAdd_0 : decode cX12_findsAdd 0 = .ok (.iconst 0, 1) := by decide +kernel
theorem dX12_findsAdd_1 : decode cX12_findsAdd 1 = .ok (.istore_n 3, 1) := by decide +kernel
theorem dX12_findsAdd_2 : decode cX12_findsAdd 2 = .ok (.iload_n 3, 1) := by decide +kernel
theorem dX12_findsAdd_3 : decode cX12_findsAdd 3 = .ok (.aload_n 0, 1) := by decide +kernel
theorem dX12_findsAdd_4 : decode cX12_findsAdd 4 = .ok (.invokevirtual 355, 3) := by decide +kernel
theorem dX12_findsAdd_7 : decode cX12_findsAdd 7 = .ok (.if_icmp .ge 50, 3) := by decide +kernel
theorem dX12_findsAdd_10 : decode cX12_findsAdd 10 = .ok (.lload_n 1, 1) := by decide +kernel
theorem dX12_findsAdd_11 : decode cX12_findsAdd 11 = .ok (.iload_n 3, 1) := by decide +kernel
theorem dX12_findsAdd_12 : decode cX12_findsAdd 12 = .ok (.invokestatic 351, 3) := by decide +kernel
theorem dX12_findsAdd_15 : decode cX12_findsAdd 15 = .ok (.ifCond .ne 36, 3) := by decide +kernel
theorem dX12_findsAdd_18 : decode cX12_findsAdd 18 = .ok (.aload_n 0, 1) := by decide +kernel
theorem dX12_findsAdd_19 : decode cX12_findsAdd 19 = .ok (.lload_n 1, 1) := by decide +kernel
theorem dX12_findsAdd_20 : decode cX12_findsAdd 20 = .ok (.iload_n 3, 1) := by decide +kernel
theorem dX12_findsAdd_21 : decode cX12_findsAdd 21 = .ok (.invokevirtual 465, 3) := by decide +kernel
theorem dX12_findsAdd_24 : decode cX12_findsAdd 24 = .ok (.ifCond .eq 27, 3) := by decide +kernel
theorem dX12_findsAdd_27 : decode cX12_findsAdd 27 = .ok (.aload_n 0, 1) := by decide +kernel
theorem dX12_findsAdd_28 : decode cX12_findsAdd 28 = .ok (.iconst 1, 1) := by decide +kernel
theorem dX12_findsAdd_29 : decode cX12_findsAdd 29 = .ok (.iconst 1, 1) := by decide +kernel
theorem dX12_findsAdd_30 : decode cX12_findsAdd 30 = .ok (.iload_n 3, 1) := by decide +kernel
theorem dX12_findsAdd_31 : decode cX12_findsAdd 31 = .ok (.invokestatic 452, 3) := by decide +kernel
theorem dX12_findsAdd_34 : decode cX12_findsAdd 34 = .ok (.ishl, 1) := by decide +kernel
theorem dX12_findsAdd_35 : decode cX12_findsAdd 35 = .ok (.iconst 1, 1) := by decide +kernel
theorem dX12_findsAdd_36 : decode cX12_findsAdd 36 = .ok (.iload_n 3, 1) := by decide +kernel
theorem dX12_findsAdd_37 : decode cX12_findsAdd 37 = .ok (.invokestatic 348, 3) := by decide +kernel
theorem dX12_findsAdd_40 : decode cX12_findsAdd 40 = .ok (.ishl, 1) := by decide +kernel
theorem dX12_findsAdd_41 : decode cX12_findsAdd 41 = .ok (.ior, 1) := by decide +kernel
theorem dX12_findsAdd_42 : decode cX12_findsAdd 42 = .ok (.lload_n 1, 1) := by decide +kernel
theorem dX12_findsAdd_43 : decode cX12_findsAdd 43 = .ok (.lconst 1, 1) := by decide +kernel
theorem dX12_findsAdd_44 : decode cX12_findsAdd 44 = .ok (.iload_n 3, 1) := by decide +kernel
theorem dX12_findsAdd_45 : decode cX12_findsAdd 45 = .ok (.lshl, 1) := by decide +kernel
theorem dX12_findsAdd_46 : decode cX12_findsAdd 46 = .ok (.lor, 1) := by decide +kernel
theorem dX12_findsAdd_47 : decode cX12_findsAdd 47 = .ok (.invokevirtual 461, 3) := by decide +kernel
theorem dX12_findsAdd_50 : decode cX12_findsAdd 50 = .ok (.ireturn, 1) := by decide +kernel
theorem dX12_findsAdd_51 : decode cX12_findsAdd 51 = .ok (.iinc 3 1, 3) := by decide +kernel
theorem dX12_findsAdd_54 : decode cX12_findsAdd 54 = .ok (.goto (-52), 3) := by decide +kernel
theorem dX12_findsAdd_57 : decode cX12_findsAdd 57 = .ok (.iconst 0, 1) := by decide +kernel
theorem dX12_findsAdd_58 : decode cX12_findsAdd 58 = .ok (.ireturn, 1) := by decide +kernel
theorem dX12_ownTies_0 : decode cX12_ownTies 0 = .ok (.lconst 0, 1) := by decide +kernel
theorem dX12_ownTies_1 : decode cX12_ownTies 1 = .ok (.lstore 4, 2) := by decide +kernel
theorem dX12_ownTies_3 : decode cX12_ownTies 3 = .ok (.iconst 0, 1) := by decide +kernel
theorem dX12_ownTies_4 : decode cX12_ownTies 4 = .ok (.istore 6, 2) := by decide +kernel
theorem dX12_ownTies_6 : decode cX12_ownTies 6 = .ok (.iload 6, 2) := by decide +kernel
theorem dX12_ownTies_8 : decode cX12_ownTies 8 = .ok (.aload_n 0, 1) := by decide +kernel
theorem dX12_ownTies_9 : decode cX12_ownTies 9 = .ok (.invokevirtual 345, 3) := by decide +kernel
theorem dX12_ownTies_12 : decode cX12_ownTies 12 = .ok (.if_icmp .ge 29, 3) := by decide +kernel
theorem dX12_ownTies_15 : decode cX12_ownTies 15 = .ok (.iload 6, 2) := by decide +kernel
theorem dX12_ownTies_17 : decode cX12_ownTies 17 = .ok (.iload_n 3, 1) := by decide +kernel
theorem dX12_ownTies_18 : decode cX12_ownTies 18 = .ok (.if_icmp .eq 17, 3) := by decide +kernel
theorem dX12_ownTies_21 : decode cX12_ownTies 21 = .ok (.lload 4, 2) := by decide +kernel
theorem dX12_ownTies_23 : decode cX12_ownTies 23 = .ok (.lload_n 1, 1) := by decide +kernel
theorem dX12_ownTies_24 : decode cX12_ownTies 24 = .ok (.aload_n 0, 1) := by decide +kernel
theorem dX12_ownTies_25 : decode cX12_ownTies 25 = .ok (.iload_n 3, 1) := by decide +kernel
theorem dX12_ownTies_26 : decode cX12_ownTies 26 = .ok (.iload 6, 2) := by decide +kernel
theorem dX12_ownTies_28 : decode cX12_ownTies 28 = .ok (.invokevirtual 374, 3) := by decide +kernel
theorem dX12_ownTies_31 : decode cX12_ownTies 31 = .ok (.land, 1) := by decide +kernel
theorem dX12_ownTies_32 : decode cX12_ownTies 32 = .ok (.lor, 1) := by decide +kernel
theorem dX12_ownTies_33 : decode cX12_ownTies 33 = .ok (.lstore 4, 2) := by decide +kernel
theorem dX12_ownTies_35 : decode cX12_ownTies 35 = .ok (.iinc 6 1, 3) := by decide +kernel
theorem dX12_ownTies_38 : decode cX12_ownTies 38 = .ok (.goto (-32), 3) := by decide +kernel
theorem dX12_ownTies_41 : decode cX12_ownTies 41 = .ok (.lload 4, 2) := by decide +kernel
theorem dX12_ownTies_43 : decode cX12_ownTies 43 = .ok (.lreturn, 1) := by decide +kernel
theorem dX12_findsSeveral_0 : decode cX12_findsSeveral 0 = .ok (.iconst 0, 1) := by decide +kernel
theorem dX12_findsSeveral_1 : decode cX12_findsSeveral 1 = .ok (.istore_n 3, 1) := by decide +kernel
theorem dX12_findsSeveral_2 : decode cX12_findsSeveral 2 = .ok (.iload_n 3, 1) := by decide +kernel
theorem dX12_findsSeveral_3 : decode cX12_findsSeveral 3 = .ok (.aload_n 0, 1) := by decide +kernel
theorem dX12_findsSeveral_4 : decode cX12_findsSeveral 4 = .ok (.invokevirtual 345, 3) := by decide +kernel
theorem dX12_findsSeveral_7 : decode cX12_findsSeveral 7 = .ok (.if_icmp .ge 87, 3) := by decide +kernel
theorem dX12_findsSeveral_10 : decode cX12_findsSeveral 10 = .ok (.aload_n 0, 1) := by decide +kernel
theorem dX12_findsSeveral_11 : decode cX12_findsSeveral 11 = .ok (.lload_n 1, 1) := by decide +kernel
theorem dX12_findsSeveral_12 : decode cX12_findsSeveral 12 = .ok (.iload_n 3, 1) := by decide +kernel
theorem dX12_findsSeveral_13 : decode cX12_findsSeveral 13 = .ok (.invokevirtual 468, 3) := by decide +kernel
theorem dX12_findsSeveral_16 : decode cX12_findsSeveral 16 = .ok (.lstore 4, 2) := by decide +kernel
theorem dX12_findsSeveral_18 : decode cX12_findsSeveral 18 = .ok (.lload 4, 2) := by decide +kernel
theorem dX12_findsSeveral_20 : decode cX12_findsSeveral 20 = .ok (.lload 4, 2) := by decide +kernel
theorem dX12_findsSeveral_22 : decode cX12_findsSeveral 22 = .ok (.lneg, 1) := by decide +kernel
theorem dX12_findsSeveral_23 : decode cX12_findsSeveral 23 = .ok (.land, 1) := by decide +kernel
theorem dX12_findsSeveral_24 : decode cX12_findsSeveral 24 = .ok (.lstore 6, 2) := by decide +kernel
theorem dX12_findsSeveral_26 : decode cX12_findsSeveral 26 = .ok (.lload 6, 2) := by decide +kernel
theorem dX12_findsSeveral_28 : decode cX12_findsSeveral 28 = .ok (.lconst 0, 1) := by decide +kernel
theorem dX12_findsSeveral_29 : decode cX12_findsSeveral 29 = .ok (.lcmp, 1) := by decide +kernel
theorem dX12_findsSeveral_30 : decode cX12_findsSeveral 30 = .ok (.ifCond .eq 58, 3) := by decide +kernel
theorem dX12_findsSeveral_33 : decode cX12_findsSeveral 33 = .ok (.lload 6, 2) := by decide +kernel
theorem dX12_findsSeveral_35 : decode cX12_findsSeveral 35 = .ok (.invokestatic 362, 3) := by decide +kernel
theorem dX12_findsSeveral_38 : decode cX12_findsSeveral 38 = .ok (.iconst 1, 1) := by decide +kernel
theorem dX12_findsSeveral_39 : decode cX12_findsSeveral 39 = .ok (.if_icmp .le 36, 3) := by decide +kernel
theorem dX12_findsSeveral_42 : decode cX12_findsSeveral 42 = .ok (.aload_n 0, 1) := by decide +kernel
theorem dX12_findsSeveral_43 : decode cX12_findsSeveral 43 = .ok (.lload_n 1, 1) := by decide +kernel
theorem dX12_findsSeveral_44 : decode cX12_findsSeveral 44 = .ok (.lload 6, 2) := by decide +kernel
theorem dX12_findsSeveral_46 : decode cX12_findsSeveral 46 = .ok (.ldc2_w 115, 3) := by decide +kernel
theorem dX12_findsSeveral_49 : decode cX12_findsSeveral 49 = .ok (.lxor, 1) := by decide +kernel
theorem dX12_findsSeveral_50 : decode cX12_findsSeveral 50 = .ok (.land, 1) := by decide +kernel
theorem dX12_findsSeveral_51 : decode cX12_findsSeveral 51 = .ok (.iload_n 3, 1) := by decide +kernel
theorem dX12_findsSeveral_52 : decode cX12_findsSeveral 52 = .ok (.invokevirtual 455, 3) := by decide +kernel
theorem dX12_findsSeveral_55 : decode cX12_findsSeveral 55 = .ok (.ifCond .eq 20, 3) := by decide +kernel
theorem dX12_findsSeveral_58 : decode cX12_findsSeveral 58 = .ok (.aload_n 0, 1) := by decide +kernel
theorem dX12_findsSeveral_59 : decode cX12_findsSeveral 59 = .ok (.iconst 2, 1) := by decide +kernel
theorem dX12_findsSeveral_60 : decode cX12_findsSeveral 60 = .ok (.iconst 1, 1) := by decide +kernel
theorem dX12_findsSeveral_61 : decode cX12_findsSeveral 61 = .ok (.iload_n 3, 1) := by decide +kernel
theorem dX12_findsSeveral_62 : decode cX12_findsSeveral 62 = .ok (.ishl, 1) := by decide +kernel
theorem dX12_findsSeveral_63 : decode cX12_findsSeveral 63 = .ok (.lload_n 1, 1) := by decide +kernel
theorem dX12_findsSeveral_64 : decode cX12_findsSeveral 64 = .ok (.lload 6, 2) := by decide +kernel
theorem dX12_findsSeveral_66 : decode cX12_findsSeveral 66 = .ok (.ldc2_w 115, 3) := by decide +kernel
theorem dX12_findsSeveral_69 : decode cX12_findsSeveral 69 = .ok (.lxor, 1) := by decide +kernel
theorem dX12_findsSeveral_70 : decode cX12_findsSeveral 70 = .ok (.land, 1) := by decide +kernel
theorem dX12_findsSeveral_71 : decode cX12_findsSeveral 71 = .ok (.invokevirtual 461, 3) := by decide +kernel
theorem dX12_findsSeveral_74 : decode cX12_findsSeveral 74 = .ok (.ireturn, 1) := by decide +kernel
theorem dX12_findsSeveral_75 : decode cX12_findsSeveral 75 = .ok (.lload 6, 2) := by decide +kernel
theorem dX12_findsSeveral_77 : decode cX12_findsSeveral 77 = .ok (.lload 4, 2) := by decide +kernel
theorem dX12_findsSeveral_79 : decode cX12_findsSeveral 79 = .ok (.lsub, 1) := by decide +kernel
theorem dX12_findsSeveral_80 : decode cX12_findsSeveral 80 = .ok (.lload 4, 2) := by decide +kernel
theorem dX12_findsSeveral_82 : decode cX12_findsSeveral 82 = .ok (.land, 1) := by decide +kernel
theorem dX12_findsSeveral_83 : decode cX12_findsSeveral 83 = .ok (.lstore 6, 2) := by decide +kernel
theorem dX12_findsSeveral_85 : decode cX12_findsSeveral 85 = .ok (.goto (-59), 3) := by decide +kernel
theorem dX12_findsSeveral_88 : decode cX12_findsSeveral 88 = .ok (.iinc 3 1, 3) := by decide +kernel
theorem dX12_findsSeveral_91 : decode cX12_findsSeveral 91 = .ok (.goto (-89), 3) := by decide +kernel
theorem dX12_findsSeveral_94 : decode cX12_findsSeveral 94 = .ok (.iconst 0, 1) := by decide +kernel
theorem dX12_findsSeveral_95 : decode cX12_findsSeveral 95 = .ok (.ireturn, 1) := by decide +kernel
theorem dX12_findsSwap_0 : decode cX12_findsSwap 0 = .ok (.iconst 0, 1) := by decide +kernel
theorem dX12_findsSwap_1 : decode cX12_findsSwap 1 = .ok (.istore_n 3, 1) := by decide +kernel
theorem dX12_findsSwap_2 : decode cX12_findsSwap 2 = .ok (.iload_n 3, 1) := by decide +kernel
theorem dX12_findsSwap_3 : decode cX12_findsSwap 3 = .ok (.aload_n 0, 1) := by decide +kernel
theorem dX12_findsSwap_4 : decode cX12_findsSwap 4 = .ok (.invokevirtual 345, 3) := by decide +kernel
theorem dX12_findsSwap_7 : decode cX12_findsSwap 7 = .ok (.if_icmp .ge 200, 3) := by decide +kernel
theorem dX12_findsSwap_10 : decode cX12_findsSwap 10 = .ok (.iconst 0, 1) := by decide +kernel
theorem dX12_findsSwap_11 : decode cX12_findsSwap 11 = .ok (.istore 4, 2) := by decide +kernel
theorem dX12_findsSwap_13 : decode cX12_findsSwap 13 = .ok (.iload 4, 2) := by decide +kernel
theorem dX12_findsSwap_15 : decode cX12_findsSwap 15 = .ok (.aload_n 0, 1) := by decide +kernel
theorem dX12_findsSwap_16 : decode cX12_findsSwap 16 = .ok (.invokevirtual 355, 3) := by decide +kernel
theorem dX12_findsSwap_19 : decode cX12_findsSwap 19 = .ok (.if_icmp .ge 182, 3) := by decide +kernel
theorem dX12_findsSwap_22 : decode cX12_findsSwap 22 = .ok (.lload_n 1, 1) := by decide +kernel
theorem dX12_findsSwap_23 : decode cX12_findsSwap 23 = .ok (.iload 4, 2) := by decide +kernel
theorem dX12_findsSwap_25 : decode cX12_findsSwap 25 = .ok (.invokestatic 351, 3) := by decide +kernel
theorem dX12_findsSwap_28 : decode cX12_findsSwap 28 = .ok (.ifCond .eq 167, 3) := by decide +kernel
theorem dX12_findsSwap_31 : decode cX12_findsSwap 31 = .ok (.iload 4, 2) := by decide +kernel
theorem dX12_findsSwap_33 : decode cX12_findsSwap 33 = .ok (.invokestatic 452, 3) := by decide +kernel
theorem dX12_findsSwap_36 : decode cX12_findsSwap 36 = .ok (.iload_n 3, 1) := by decide +kernel
theorem dX12_findsSwap_37 : decode cX12_findsSwap 37 = .ok (.if_icmp .eq 15, 3) := by decide +kernel
theorem dX12_findsSwap_40 : decode cX12_findsSwap 40 = .ok (.iload 4, 2) := by decide +kernel
theorem dX12_findsSwap_42 : decode cX12_findsSwap 42 = .ok (.invokestatic 348, 3) := by decide +kernel
theorem dX12_findsSwap_45 : decode cX12_findsSwap 45 = .ok (.iload_n 3, 1) := by decide +kernel
theorem dX12_findsSwap_46 : decode cX12_findsSwap 46 = .ok (.if_icmp .eq 6, 3) := by decide +kernel
theorem dX12_findsSwap_49 : decode cX12_findsSwap 49 = .ok (.goto 146, 3) := by decide +kernel
theorem dX12_findsSwap_52 : decode cX12_findsSwap 52 = .ok (.iconst 0, 1) := by decide +kernel
theorem dX12_findsSwap_53 : decode cX12_findsSwap 53 = .ok (.istore 5, 2) := by decide +kernel
theorem dX12_findsSwap_55 : decode cX12_findsSwap 55 = .ok (.iload 5, 2) := by decide +kernel
theorem dX12_findsSwap_57 : decode cX12_findsSwap 57 = .ok (.aload_n 0, 1) := by decide +kernel
theorem dX12_findsSwap_58 : decode cX12_findsSwap 58 = .ok (.invokevirtual 355, 3) := by decide +kernel
theorem dX12_findsSwap_61 : decode cX12_findsSwap 61 = .ok (.if_icmp .ge 134, 3) := by decide +kernel
theorem dX12_findsSwap_64 : decode cX12_findsSwap 64 = .ok (.lload_n 1, 1) := by decide +kernel
theorem dX12_findsSwap_65 : decode cX12_findsSwap 65 = .ok (.iload 5, 2) := by decide +kernel
theorem dX12_findsSwap_67 : decode cX12_findsSwap 67 = .ok (.invokestatic 351, 3) := by decide +kernel
theorem dX12_findsSwap_70 : decode cX12_findsSwap 70 = .ok (.ifCond .ne 119, 3) := by decide +kernel
theorem dX12_findsSwap_73 : decode cX12_findsSwap 73 = .ok (.iload 5, 2) := by decide +kernel
theorem dX12_findsSwap_75 : decode cX12_findsSwap 75 = .ok (.invokestatic 452, 3) := by decide +kernel
theorem dX12_findsSwap_78 : decode cX12_findsSwap 78 = .ok (.iload_n 3, 1) := by decide +kernel
theorem dX12_findsSwap_79 : decode cX12_findsSwap 79 = .ok (.if_icmp .eq 15, 3) := by decide +kernel
theorem dX12_findsSwap_82 : decode cX12_findsSwap 82 = .ok (.iload 5, 2) := by decide +kernel
theorem dX12_findsSwap_84 : decode cX12_findsSwap 84 = .ok (.invokestatic 348, 3) := by decide +kernel
theorem dX12_findsSwap_87 : decode cX12_findsSwap 87 = .ok (.iload_n 3, 1) := by decide +kernel
theorem dX12_findsSwap_88 : decode cX12_findsSwap 88 = .ok (.if_icmp .eq 6, 3) := by decide +kernel
theorem dX12_findsSwap_91 : decode cX12_findsSwap 91 = .ok (.goto 98, 3) := by decide +kernel
theorem dX12_findsSwap_94 : decode cX12_findsSwap 94 = .ok (.iload 5, 2) := by decide +kernel
theorem dX12_findsSwap_96 : decode cX12_findsSwap 96 = .ok (.invokestatic 452, 3) := by decide +kernel
theorem dX12_findsSwap_99 : decode cX12_findsSwap 99 = .ok (.iload_n 3, 1) := by decide +kernel
theorem dX12_findsSwap_100 : decode cX12_findsSwap 100 = .ok (.if_icmp .ne 11, 3) := by decide +kernel
theorem dX12_findsSwap_103 : decode cX12_findsSwap 103 = .ok (.iload 5, 2) := by decide +kernel
theorem dX12_findsSwap_105 : decode cX12_findsSwap 105 = .ok (.invokestatic 348, 3) := by decide +kernel
theorem dX12_findsSwap_108 : decode cX12_findsSwap 108 = .ok (.goto 8, 3) := by decide +kernel
theorem dX12_findsSwap_111 : decode cX12_findsSwap 111 = .ok (.iload 5, 2) := by decide +kernel
theorem dX12_findsSwap_113 : decode cX12_findsSwap 113 = .ok (.invokestatic 452, 3) := by decide +kernel
theorem dX12_findsSwap_116 : decode cX12_findsSwap 116 = .ok (.istore 6, 2) := by decide +kernel
theorem dX12_findsSwap_118 : decode cX12_findsSwap 118 = .ok (.lload_n 1, 1) := by decide +kernel
theorem dX12_findsSwap_119 : decode cX12_findsSwap 119 = .ok (.lconst 1, 1) := by decide +kernel
theorem dX12_findsSwap_120 : decode cX12_findsSwap 120 = .ok (.iload 4, 2) := by decide +kernel
theorem dX12_findsSwap_122 : decode cX12_findsSwap 122 = .ok (.lshl, 1) := by decide +kernel
theorem dX12_findsSwap_123 : decode cX12_findsSwap 123 = .ok (.ldc2_w 115, 3) := by decide +kernel
theorem dX12_findsSwap_126 : decode cX12_findsSwap 126 = .ok (.lxor, 1) := by decide +kernel
theorem dX12_findsSwap_127 : decode cX12_findsSwap 127 = .ok (.land, 1) := by decide +kernel
theorem dX12_findsSwap_128 : decode cX12_findsSwap 128 = .ok (.lconst 1, 1) := by decide +kernel
theorem dX12_findsSwap_129 : decode cX12_findsSwap 129 = .ok (.iload 5, 2) := by decide +kernel
theorem dX12_findsSwap_131 : decode cX12_findsSwap 131 = .ok (.lshl, 1) := by decide +kernel
theorem dX12_findsSwap_132 : decode cX12_findsSwap 132 = .ok (.lor, 1) := by decide +kernel
theorem dX12_findsSwap_133 : decode cX12_findsSwap 133 = .ok (.lstore 7, 2) := by decide +kernel
theorem dX12_findsSwap_135 : decode cX12_findsSwap 135 = .ok (.aload_n 0, 1) := by decide +kernel
theorem dX12_findsSwap_136 : decode cX12_findsSwap 136 = .ok (.lload 7, 2) := by decide +kernel
theorem dX12_findsSwap_138 : decode cX12_findsSwap 138 = .ok (.invokevirtual 370, 3) := by decide +kernel
theorem dX12_findsSwap_141 : decode cX12_findsSwap 141 = .ok (.ifCond .eq 48, 3) := by decide +kernel
theorem dX12_findsSwap_144 : decode cX12_findsSwap 144 = .ok (.aload_n 0, 1) := by decide +kernel
theorem dX12_findsSwap_145 : decode cX12_findsSwap 145 = .ok (.lload 7, 2) := by decide +kernel
theorem dX12_findsSwap_147 : decode cX12_findsSwap 147 = .ok (.iload_n 3, 1) := by decide +kernel
theorem dX12_findsSwap_148 : decode cX12_findsSwap 148 = .ok (.invokevirtual 455, 3) := by decide +kernel
theorem dX12_findsSwap_151 : decode cX12_findsSwap 151 = .ok (.ifCond .eq 38, 3) := by decide +kernel
theorem dX12_findsSwap_154 : decode cX12_findsSwap 154 = .ok (.aload_n 0, 1) := by decide +kernel
theorem dX12_findsSwap_155 : decode cX12_findsSwap 155 = .ok (.lload 7, 2) := by decide +kernel
theorem dX12_findsSwap_157 : decode cX12_findsSwap 157 = .ok (.iload 6, 2) := by decide +kernel
theorem dX12_findsSwap_159 : decode cX12_findsSwap 159 = .ok (.invokevirtual 434, 3) := by decide +kernel
theorem dX12_findsSwap_162 : decode cX12_findsSwap 162 = .ok (.aload_n 0, 1) := by decide +kernel
theorem dX12_findsSwap_163 : decode cX12_findsSwap 163 = .ok (.getfield 136, 3) := by decide +kernel
theorem dX12_findsSwap_166 : decode cX12_findsSwap 166 = .ok (.iload 6, 2) := by decide +kernel
theorem dX12_findsSwap_168 : decode cX12_findsSwap 168 = .ok (.laload, 1) := by decide +kernel
theorem dX12_findsSwap_169 : decode cX12_findsSwap 169 = .ok (.lcmp, 1) := by decide +kernel
theorem dX12_findsSwap_170 : decode cX12_findsSwap 170 = .ok (.ifCond .lt 19, 3) := by decide +kernel
theorem dX12_findsSwap_173 : decode cX12_findsSwap 173 = .ok (.aload_n 0, 1) := by decide +kernel
theorem dX12_findsSwap_174 : decode cX12_findsSwap 174 = .ok (.iconst 3, 1) := by decide +kernel
theorem dX12_findsSwap_175 : decode cX12_findsSwap 175 = .ok (.iconst 1, 1) := by decide +kernel
theorem dX12_findsSwap_176 : decode cX12_findsSwap 176 = .ok (.iload_n 3, 1) := by decide +kernel
theorem dX12_findsSwap_177 : decode cX12_findsSwap 177 = .ok (.ishl, 1) := by decide +kernel
theorem dX12_findsSwap_178 : decode cX12_findsSwap 178 = .ok (.iconst 1, 1) := by decide +kernel
theorem dX12_findsSwap_179 : decode cX12_findsSwap 179 = .ok (.iload 6, 2) := by decide +kernel
theorem dX12_findsSwap_181 : decode cX12_findsSwap 181 = .ok (.ishl, 1) := by decide +kernel
theorem dX12_findsSwap_182 : decode cX12_findsSwap 182 = .ok (.ior, 1) := by decide +kernel
theorem dX12_findsSwap_183 : decode cX12_findsSwap 183 = .ok (.lload 7, 2) := by decide +kernel
theorem dX12_findsSwap_185 : decode cX12_findsSwap 185 = .ok (.invokevirtual 461, 3) := by decide +kernel
theorem dX12_findsSwap_188 : decode cX12_findsSwap 188 = .ok (.ireturn, 1) := by decide +kernel
theorem dX12_findsSwap_189 : decode cX12_findsSwap 189 = .ok (.iinc 5 1, 3) := by decide +kernel
theorem dX12_findsSwap_192 : decode cX12_findsSwap 192 = .ok (.goto (-137), 3) := by decide +kernel
theorem dX12_findsSwap_195 : decode cX12_findsSwap 195 = .ok (.iinc 4 1, 3) := by decide +kernel
theorem dX12_findsSwap_198 : decode cX12_findsSwap 198 = .ok (.goto (-185), 3) := by decide +kernel
theorem dX12_findsSwap_201 : decode cX12_findsSwap 201 = .ok (.iinc 3 1, 3) := by decide +kernel
theorem dX12_findsSwap_204 : decode cX12_findsSwap 204 = .ok (.goto (-202), 3) := by decide +kernel
theorem dX12_findsSwap_207 : decode cX12_findsSwap 207 = .ok (.iconst 0, 1) := by decide +kernel
theorem dX12_findsSwap_208 : decode cX12_findsSwap 208 = .ok (.ireturn, 1) := by decide +kernel
theorem dX12_findsTogether_0 : decode cX12_findsTogether 0 = .ok (.iconst 0, 1) := by decide +kernel
theorem dX12_findsTogether_1 : decode cX12_findsTogether 1 = .ok (.istore_n 3, 1) := by decide +kernel
theorem dX12_findsTogether_2 : decode cX12_findsTogether 2 = .ok (.iload_n 3, 1) := by decide +kernel
theorem dX12_findsTogether_3 : decode cX12_findsTogether 3 = .ok (.aload_n 0, 1) := by decide +kernel
theorem dX12_findsTogether_4 : decode cX12_findsTogether 4 = .ok (.invokevirtual 355, 3) := by decide +kernel
theorem dX12_findsTogether_7 : decode cX12_findsTogether 7 = .ok (.if_icmp .ge 90, 3) := by decide +kernel
theorem dX12_findsTogether_10 : decode cX12_findsTogether 10 = .ok (.lload_n 1, 1) := by decide +kernel
theorem dX12_findsTogether_11 : decode cX12_findsTogether 11 = .ok (.lconst 1, 1) := by decide +kernel
theorem dX12_findsTogether_12 : decode cX12_findsTogether 12 = .ok (.iload_n 3, 1) := by decide +kernel
theorem dX12_findsTogether_13 : decode cX12_findsTogether 13 = .ok (.lshl, 1) := by decide +kernel
theorem dX12_findsTogether_14 : decode cX12_findsTogether 14 = .ok (.lxor, 1) := by decide +kernel
theorem dX12_findsTogether_15 : decode cX12_findsTogether 15 = .ok (.lstore 4, 2) := by decide +kernel
theorem dX12_findsTogether_17 : decode cX12_findsTogether 17 = .ok (.iload_n 3, 1) := by decide +kernel
theorem dX12_findsTogether_18 : decode cX12_findsTogether 18 = .ok (.invokestatic 452, 3) := by decide +kernel
theorem dX12_findsTogether_21 : decode cX12_findsTogether 21 = .ok (.istore 6, 2) := by decide +kernel
theorem dX12_findsTogether_23 : decode cX12_findsTogether 23 = .ok (.iload_n 3, 1) := by decide +kernel
theorem dX12_findsTogether_24 : decode cX12_findsTogether 24 = .ok (.invokestatic 348, 3) := by decide +kernel
theorem dX12_findsTogether_27 : decode cX12_findsTogether 27 = .ok (.istore 7, 2) := by decide +kernel
theorem dX12_findsTogether_29 : decode cX12_findsTogether 29 = .ok (.aload_n 0, 1) := by decide +kernel
theorem dX12_findsTogether_30 : decode cX12_findsTogether 30 = .ok (.lload 4, 2) := by decide +kernel
theorem dX12_findsTogether_32 : decode cX12_findsTogether 32 = .ok (.invokevirtual 370, 3) := by decide +kernel
theorem dX12_findsTogether_35 : decode cX12_findsTogether 35 = .ok (.ifCond .eq 56, 3) := by decide +kernel
theorem dX12_findsTogether_38 : decode cX12_findsTogether 38 = .ok (.aload_n 0, 1) := by decide +kernel
theorem dX12_findsTogether_39 : decode cX12_findsTogether 39 = .ok (.lload 4, 2) := by decide +kernel
theorem dX12_findsTogether_41 : decode cX12_findsTogether 41 = .ok (.iload 6, 2) := by decide +kernel
theorem dX12_findsTogether_43 : decode cX12_findsTogether 43 = .ok (.invokevirtual 434, 3) := by decide +kernel
theorem dX12_findsTogether_46 : decode cX12_findsTogether 46 = .ok (.aload_n 0, 1) := by decide +kernel
theorem dX12_findsTogether_47 : decode cX12_findsTogether 47 = .ok (.lload 4, 2) := by decide +kernel
theorem dX12_findsTogether_49 : decode cX12_findsTogether 49 = .ok (.iload 7, 2) := by decide +kernel
theorem dX12_findsTogether_51 : decode cX12_findsTogether 51 = .ok (.invokevirtual 434, 3) := by decide +kernel
theorem dX12_findsTogether_54 : decode cX12_findsTogether 54 = .ok (.ladd, 1) := by decide +kernel
theorem dX12_findsTogether_55 : decode cX12_findsTogether 55 = .ok (.aload_n 0, 1) := by decide +kernel
theorem dX12_findsTogether_56 : decode cX12_findsTogether 56 = .ok (.getfield 136, 3) := by decide +kernel
theorem dX12_findsTogether_59 : decode cX12_findsTogether 59 = .ok (.iload 6, 2) := by decide +kernel
theorem dX12_findsTogether_61 : decode cX12_findsTogether 61 = .ok (.laload, 1) := by decide +kernel
theorem dX12_findsTogether_62 : decode cX12_findsTogether 62 = .ok (.aload_n 0, 1) := by decide +kernel
theorem dX12_findsTogether_63 : decode cX12_findsTogether 63 = .ok (.getfield 136, 3) := by decide +kernel
theorem dX12_findsTogether_66 : decode cX12_findsTogether 66 = .ok (.iload 7, 2) := by decide +kernel
theorem dX12_findsTogether_68 : decode cX12_findsTogether 68 = .ok (.laload, 1) := by decide +kernel
theorem dX12_findsTogether_69 : decode cX12_findsTogether 69 = .ok (.ladd, 1) := by decide +kernel
theorem dX12_findsTogether_70 : decode cX12_findsTogether 70 = .ok (.lcmp, 1) := by decide +kernel
theorem dX12_findsTogether_71 : decode cX12_findsTogether 71 = .ok (.ifCond .le 20, 3) := by decide +kernel
theorem dX12_findsTogether_74 : decode cX12_findsTogether 74 = .ok (.aload_n 0, 1) := by decide +kernel
theorem dX12_findsTogether_75 : decode cX12_findsTogether 75 = .ok (.iconst 4, 1) := by decide +kernel
theorem dX12_findsTogether_76 : decode cX12_findsTogether 76 = .ok (.iconst 1, 1) := by decide +kernel
theorem dX12_findsTogether_77 : decode cX12_findsTogether 77 = .ok (.iload 6, 2) := by decide +kernel
theorem dX12_findsTogether_79 : decode cX12_findsTogether 79 = .ok (.ishl, 1) := by decide +kernel
theorem dX12_findsTogether_80 : decode cX12_findsTogether 80 = .ok (.iconst 1, 1) := by decide +kernel
theorem dX12_findsTogether_81 : decode cX12_findsTogether 81 = .ok (.iload 7, 2) := by decide +kernel
theorem dX12_findsTogether_83 : decode cX12_findsTogether 83 = .ok (.ishl, 1) := by decide +kernel
theorem dX12_findsTogether_84 : decode cX12_findsTogether 84 = .ok (.ior, 1) := by decide +kernel
theorem dX12_findsTogether_85 : decode cX12_findsTogether 85 = .ok (.lload 4, 2) := by decide +kernel
theorem dX12_findsTogether_87 : decode cX12_findsTogether 87 = .ok (.invokevirtual 461, 3) := by decide +kernel
theorem dX12_findsTogether_90 : decode cX12_findsTogether 90 = .ok (.ireturn, 1) := by decide +kernel
theorem dX12_findsTogether_91 : decode cX12_findsTogether 91 = .ok (.iinc 3 1, 3) := by decide +kernel
theorem dX12_findsTogether_94 : decode cX12_findsTogether 94 = .ok (.goto (-92), 3) := by decide +kernel
theorem dX12_findsTogether_97 : decode cX12_findsTogether 97 = .ok (.iconst 0, 1) := by decide +kernel
theorem dX12_findsTogether_98 : decode cX12_findsTogether 98 = .ok (.ireturn, 1) := by decide +kernel
theorem dX12_canMake_0 : decode cX12_canMake 0 = .ok (.iconst 0, 1) := by decide +kernel
theorem dX12_canMake_1 : decode cX12_canMake 1 = .ok (.istore 6, 2) := by decide +kernel
theorem dX12_canMake_3 : decode cX12_canMake 3 = .ok (.iload 6, 2) := by decide +kernel
theorem dX12_canMake_5 : decode cX12_canMake 5 = .ok (.aload_n 0, 1) := by decide +kernel
theorem dX12_canMake_6 : decode cX12_canMake 6 = .ok (.invokevirtual 355, 3) := by decide +kernel
theorem dX12_canMake_9 : decode cX12_canMake 9 = .ok (.if_icmp .ge 81, 3) := by decide +kernel
theorem dX12_canMake_12 : decode cX12_canMake 12 = .ok (.iload 5, 2) := by decide +kernel
theorem dX12_canMake_14 : decode cX12_canMake 14 = .ok (.iload 6, 2) := by decide +kernel
theorem dX12_canMake_16 : decode cX12_canMake 16 = .ok (.invokestatic 452, 3) := by decide +kernel
theorem dX12_canMake_19 : decode cX12_canMake 19 = .ok (.ishr, 1) := by decide +kernel
theorem dX12_canMake_20 : decode cX12_canMake 20 = .ok (.iconst 1, 1) := by decide +kernel
theorem dX12_canMake_21 : decode cX12_canMake 21 = .ok (.iand, 1) := by decide +kernel
theorem dX12_canMake_22 : decode cX12_canMake 22 = .ok (.iload 5, 2) := by decide +kernel
theorem dX12_canMake_24 : decode cX12_canMake 24 = .ok (.iload 6, 2) := by decide +kernel
theorem dX12_canMake_26 : decode cX12_canMake 26 = .ok (.invokestatic 348, 3) := by decide +kernel
theorem dX12_canMake_29 : decode cX12_canMake 29 = .ok (.ishr, 1) := by decide +kernel
theorem dX12_canMake_30 : decode cX12_canMake 30 = .ok (.iconst 1, 1) := by decide +kernel
theorem dX12_canMake_31 : decode cX12_canMake 31 = .ok (.iand, 1) := by decide +kernel
theorem dX12_canMake_32 : decode cX12_canMake 32 = .ok (.iadd, 1) := by decide +kernel
theorem dX12_canMake_33 : decode cX12_canMake 33 = .ok (.istore 7, 2) := by decide +kernel
theorem dX12_canMake_35 : decode cX12_canMake 35 = .ok (.lload_n 1, 1) := by decide +kernel
theorem dX12_canMake_36 : decode cX12_canMake 36 = .ok (.iload 6, 2) := by decide +kernel
theorem dX12_canMake_38 : decode cX12_canMake 38 = .ok (.invokestatic 351, 3) := by decide +kernel
theorem dX12_canMake_41 : decode cX12_canMake 41 = .ok (.ifCond .eq 17, 3) := by decide +kernel
theorem dX12_canMake_44 : decode cX12_canMake 44 = .ok (.lload_n 3, 1) := by decide +kernel
theorem dX12_canMake_45 : decode cX12_canMake 45 = .ok (.iload 6, 2) := by decide +kernel
theorem dX12_canMake_47 : decode cX12_canMake 47 = .ok (.invokestatic 351, 3) := by decide +kernel
theorem dX12_canMake_50 : decode cX12_canMake 50 = .ok (.ifCond .ne 8, 3) := by decide +kernel
theorem dX12_canMake_53 : decode cX12_canMake 53 = .ok (.iload 7, 2) := by decide +kernel
theorem dX12_canMake_55 : decode cX12_canMake 55 = .ok (.ifCond .eq 27, 3) := by decide +kernel
theorem dX12_canMake_58 : decode cX12_canMake 58 = .ok (.lload_n 1, 1) := by decide +kernel
theorem dX12_canMake_59 : decode cX12_canMake 59 = .ok (.iload 6, 2) := by decide +kernel
theorem dX12_canMake_61 : decode cX12_canMake 61 = .ok (.invokestatic 351, 3) := by decide +kernel
theorem dX12_canMake_64 : decode cX12_canMake 64 = .ok (.ifCond .ne 20, 3) := by decide +kernel
theorem dX12_canMake_67 : decode cX12_canMake 67 = .ok (.lload_n 3, 1) := by decide +kernel
theorem dX12_canMake_68 : decode cX12_canMake 68 = .ok (.iload 6, 2) := by decide +kernel
theorem dX12_canMake_70 : decode cX12_canMake 70 = .ok (.invokestatic 351, 3) := by decide +kernel
theorem dX12_canMake_73 : decode cX12_canMake 73 = .ok (.ifCond .eq 11, 3) := by decide +kernel
theorem dX12_canMake_76 : decode cX12_canMake 76 = .ok (.iload 7, 2) := by decide +kernel
theorem dX12_canMake_78 : decode cX12_canMake 78 = .ok (.iconst 2, 1) := by decide +kernel
theorem dX12_canMake_79 : decode cX12_canMake 79 = .ok (.if_icmp .ge 5, 3) := by decide +kernel
theorem dX12_canMake_82 : decode cX12_canMake 82 = .ok (.iconst 0, 1) := by decide +kernel
theorem dX12_canMake_83 : decode cX12_canMake 83 = .ok (.ireturn, 1) := by decide +kernel
theorem dX12_canMake_84 : decode cX12_canMake 84 = .ok (.iinc 6 1, 3) := by decide +kernel
theorem dX12_canMake_87 : decode cX12_canMake 87 = .ok (.goto (-84), 3) := by decide +kernel
theorem dX12_canMake_90 : decode cX12_canMake 90 = .ok (.iconst 1, 1) := by decide +kernel
theorem dX12_canMake_91 : decode cX12_canMake 91 = .ok (.ireturn, 1) := by decide +kernel
theorem dX12_findsSet_0 : decode cX12_findsSet 0 = .ok (.lconst 0, 1) := by decide +kernel
theorem dX12_findsSet_1 : decode cX12_findsSet 1 = .ok (.lstore_n 3, 1) := by decide +kernel
theorem dX12_findsSet_2 : decode cX12_findsSet 2 = .ok (.lload_n 3, 1) := by decide +kernel
theorem dX12_findsSet_3 : decode cX12_findsSet 3 = .ok (.lconst 1, 1) := by decide +kernel
theorem dX12_findsSet_4 : decode cX12_findsSet 4 = .ok (.aload_n 0, 1) := by decide +kernel
theorem dX12_findsSet_5 : decode cX12_findsSet 5 = .ok (.invokevirtual 355, 3) := by decide +kernel
theorem dX12_findsSet_8 : decode cX12_findsSet 8 = .ok (.lshl, 1) := by decide +kernel
theorem dX12_findsSet_9 : decode cX12_findsSet 9 = .ok (.lcmp, 1) := by decide +kernel
theorem dX12_findsSet_10 : decode cX12_findsSet 10 = .ok (.ifCond .ge 130, 3) := by decide +kernel
theorem dX12_findsSet_13 : decode cX12_findsSet 13 = .ok (.lload_n 3, 1) := by decide +kernel
theorem dX12_findsSet_14 : decode cX12_findsSet 14 = .ok (.lload_n 1, 1) := by decide +kernel
theorem dX12_findsSet_15 : decode cX12_findsSet 15 = .ok (.lcmp, 1) := by decide +kernel
theorem dX12_findsSet_16 : decode cX12_findsSet 16 = .ok (.ifCond .eq 117, 3) := by decide +kernel
theorem dX12_findsSet_19 : decode cX12_findsSet 19 = .ok (.aload_n 0, 1) := by decide +kernel
theorem dX12_findsSet_20 : decode cX12_findsSet 20 = .ok (.lload_n 3, 1) := by decide +kernel
theorem dX12_findsSet_21 : decode cX12_findsSet 21 = .ok (.invokevirtual 370, 3) := by decide +kernel
theorem dX12_findsSet_24 : decode cX12_findsSet 24 = .ok (.ifCond .ne 6, 3) := by decide +kernel
theorem dX12_findsSet_27 : decode cX12_findsSet 27 = .ok (.goto 106, 3) := by decide +kernel
theorem dX12_findsSet_30 : decode cX12_findsSet 30 = .ok (.iconst 0, 1) := by decide +kernel
theorem dX12_findsSet_31 : decode cX12_findsSet 31 = .ok (.istore 5, 2) := by decide +kernel
theorem dX12_findsSet_33 : decode cX12_findsSet 33 = .ok (.iconst 0, 1) := by decide +kernel
theorem dX12_findsSet_34 : decode cX12_findsSet 34 = .ok (.istore 6, 2) := by decide +kernel
theorem dX12_findsSet_36 : decode cX12_findsSet 36 = .ok (.iload 6, 2) := by decide +kernel
theorem dX12_findsSet_38 : decode cX12_findsSet 38 = .ok (.aload_n 0, 1) := by decide +kernel
theorem dX12_findsSet_39 : decode cX12_findsSet 39 = .ok (.invokevirtual 345, 3) := by decide +kernel
theorem dX12_findsSet_42 : decode cX12_findsSet 42 = .ok (.if_icmp .ge 36, 3) := by decide +kernel
theorem dX12_findsSet_45 : decode cX12_findsSet 45 = .ok (.aload_n 0, 1) := by decide +kernel
theorem dX12_findsSet_46 : decode cX12_findsSet 46 = .ok (.lload_n 3, 1) := by decide +kernel
theorem dX12_findsSet_47 : decode cX12_findsSet 47 = .ok (.iload 6, 2) := by decide +kernel
theorem dX12_findsSet_49 : decode cX12_findsSet 49 = .ok (.invokevirtual 434, 3) := by decide +kernel
theorem dX12_findsSet_52 : decode cX12_findsSet 52 = .ok (.aload_n 0, 1) := by decide +kernel
theorem dX12_findsSet_53 : decode cX12_findsSet 53 = .ok (.getfield 136, 3) := by decide +kernel
theorem dX12_findsSet_56 : decode cX12_findsSet 56 = .ok (.iload 6, 2) := by decide +kernel
theorem dX12_findsSet_58 : decode cX12_findsSet 58 = .ok (.laload, 1) := by decide +kernel
theorem dX12_findsSet_59 : decode cX12_findsSet 59 = .ok (.lcmp, 1) := by decide +kernel
theorem dX12_findsSet_60 : decode cX12_findsSet 60 = .ok (.ifCond .le 12, 3) := by decide +kernel
theorem dX12_findsSet_63 : decode cX12_findsSet 63 = .ok (.iload 5, 2) := by decide +kernel
theorem dX12_findsSet_65 : decode cX12_findsSet 65 = .ok (.iconst 1, 1) := by decide +kernel
theorem dX12_findsSet_66 : decode cX12_findsSet 66 = .ok (.iload 6, 2) := by decide +kernel
theorem dX12_findsSet_68 : decode cX12_findsSet 68 = .ok (.ishl, 1) := by decide +kernel
theorem dX12_findsSet_69 : decode cX12_findsSet 69 = .ok (.ior, 1) := by decide +kernel
theorem dX12_findsSet_70 : decode cX12_findsSet 70 = .ok (.istore 5, 2) := by decide +kernel
theorem dX12_findsSet_72 : decode cX12_findsSet 72 = .ok (.iinc 6 1, 3) := by decide +kernel
theorem dX12_findsSet_75 : decode cX12_findsSet 75 = .ok (.goto (-39), 3) := by decide +kernel
theorem dX12_findsSet_78 : decode cX12_findsSet 78 = .ok (.iconst 1, 1) := by decide +kernel
theorem dX12_findsSet_79 : decode cX12_findsSet 79 = .ok (.istore 6, 2) := by decide +kernel
theorem dX12_findsSet_81 : decode cX12_findsSet 81 = .ok (.iload 6, 2) := by decide +kernel
theorem dX12_findsSet_83 : decode cX12_findsSet 83 = .ok (.iconst 1, 1) := by decide +kernel
theorem dX12_findsSet_84 : decode cX12_findsSet 84 = .ok (.aload_n 0, 1) := by decide +kernel
theorem dX12_findsSet_85 : decode cX12_findsSet 85 = .ok (.invokevirtual 345, 3) := by decide +kernel
theorem dX12_findsSet_88 : decode cX12_findsSet 88 = .ok (.ishl, 1) := by decide +kernel
theorem dX12_findsSet_89 : decode cX12_findsSet 89 = .ok (.if_icmp .ge 44, 3) := by decide +kernel
theorem dX12_findsSet_92 : decode cX12_findsSet 92 = .ok (.iload 5, 2) := by decide +kernel
theorem dX12_findsSet_94 : decode cX12_findsSet 94 = .ok (.ifCond .eq 39, 3) := by decide +kernel
theorem dX12_findsSet_97 : decode cX12_findsSet 97 = .ok (.iload 6, 2) := by decide +kernel
theorem dX12_findsSet_99 : decode cX12_findsSet 99 = .ok (.iload 5, 2) := by decide +kernel
theorem dX12_findsSet_101 : decode cX12_findsSet 101 = .ok (.iconst (-1), 1) := by decide +kernel
theorem dX12_findsSet_102 : decode cX12_findsSet 102 = .ok (.ixor, 1) := by decide +kernel
theorem dX12_findsSet_103 : decode cX12_findsSet 103 = .ok (.iand, 1) := by decide +kernel
theorem dX12_findsSet_104 : decode cX12_findsSet 104 = .ok (.ifCond .ne 23, 3) := by decide +kernel
theorem dX12_findsSet_107 : decode cX12_findsSet 107 = .ok (.aload_n 0, 1) := by decide +kernel
theorem dX12_findsSet_108 : decode cX12_findsSet 108 = .ok (.lload_n 1, 1) := by decide +kernel
theorem dX12_findsSet_109 : decode cX12_findsSet 109 = .ok (.lload_n 3, 1) := by decide +kernel
theorem dX12_findsSet_110 : decode cX12_findsSet 110 = .ok (.iload 6, 2) := by decide +kernel
theorem dX12_findsSet_112 : decode cX12_findsSet 112 = .ok (.invokevirtual 471, 3) := by decide +kernel
theorem dX12_findsSet_115 : decode cX12_findsSet 115 = .ok (.ifCond .eq 12, 3) := by decide +kernel
theorem dX12_findsSet_118 : decode cX12_findsSet 118 = .ok (.aload_n 0, 1) := by decide +kernel
theorem dX12_findsSet_119 : decode cX12_findsSet 119 = .ok (.iconst 5, 1) := by decide +kernel
theorem dX12_findsSet_120 : decode cX12_findsSet 120 = .ok (.iload 6, 2) := by decide +kernel
theorem dX12_findsSet_122 : decode cX12_findsSet 122 = .ok (.lload_n 3, 1) := by decide +kernel
theorem dX12_findsSet_123 : decode cX12_findsSet 123 = .ok (.invokevirtual 461, 3) := by decide +kernel
theorem dX12_findsSet_126 : decode cX12_findsSet 126 = .ok (.ireturn, 1) := by decide +kernel
theorem dX12_findsSet_127 : decode cX12_findsSet 127 = .ok (.iinc 6 1, 3) := by decide +kernel
theorem dX12_findsSet_130 : decode cX12_findsSet 130 = .ok (.goto (-49), 3) := by decide +kernel
theorem dX12_findsSet_133 : decode cX12_findsSet 133 = .ok (.lload_n 3, 1) := by decide +kernel
theorem dX12_findsSet_134 : decode cX12_findsSet 134 = .ok (.lconst 1, 1) := by decide +kernel
theorem dX12_findsSet_135 : decode cX12_findsSet 135 = .ok (.ladd, 1) := by decide +kernel
theorem dX12_findsSet_136 : decode cX12_findsSet 136 = .ok (.lstore_n 3, 1) := by decide +kernel
theorem dX12_findsSet_137 : decode cX12_findsSet 137 = .ok (.goto (-135), 3) := by decide +kernel
theorem dX12_findsSet_140 : decode cX12_findsSet 140 = .ok (.iconst 0, 1) := by decide +kernel
theorem dX12_findsSet_141 : decode cX12_findsSet 141 = .ok (.ireturn, 1) := by decide +kernel
theorem dX12_isRest_0 : decode cX12_isRest 0 = .ok (.aload_n 0, 1) := by decide +kernel
theorem dX12_isRest_1 : decode cX12_isRest 1 = .ok (.lload_n 1, 1) := by decide +kernel
theorem dX12_isRest_2 : decode cX12_isRest 2 = .ok (.invokevirtual 475, 3) := by decide +kernel
theorem dX12_isRest_5 : decode cX12_isRest 5 = .ok (.iload_n 3, 1) := by decide +kernel
theorem dX12_isRest_6 : decode cX12_isRest 6 = .ok (.iconst 4, 1) := by decide +kernel
theorem dX12_isRest_7 : decode cX12_isRest 7 = .ok (.if_icmp .ne 17, 3) := by decide +kernel
theorem dX12_isRest_10 : decode cX12_isRest 10 = .ok (.aload_n 0, 1) := by decide +kernel
theorem dX12_isRest_11 : decode cX12_isRest 11 = .ok (.lload_n 1, 1) := by decide +kernel
theorem dX12_isRest_12 : decode cX12_isRest 12 = .ok (.invokevirtual 478, 3) := by decide +kernel
theorem dX12_isRest_15 : decode cX12_isRest 15 = .ok (.ifCond .ne 7, 3) := by decide +kernel
theorem dX12_isRest_18 : decode cX12_isRest 18 = .ok (.iconst 1, 1) := by decide +kernel
theorem dX12_isRest_19 : decode cX12_isRest 19 = .ok (.goto 4, 3) := by decide +kernel
theorem dX12_isRest_22 : decode cX12_isRest 22 = .ok (.iconst 0, 1) := by decide +kernel
theorem dX12_isRest_23 : decode cX12_isRest 23 = .ok (.ireturn, 1) := by decide +kernel
theorem dX12_isRest_24 : decode cX12_isRest 24 = .ok (.iload_n 3, 1) := by decide +kernel
theorem dX12_isRest_25 : decode cX12_isRest 25 = .ok (.iconst 5, 1) := by decide +kernel
theorem dX12_isRest_26 : decode cX12_isRest 26 = .ok (.if_icmp .ne 17, 3) := by decide +kernel
theorem dX12_isRest_29 : decode cX12_isRest 29 = .ok (.aload_n 0, 1) := by decide +kernel
theorem dX12_isRest_30 : decode cX12_isRest 30 = .ok (.lload_n 1, 1) := by decide +kernel
theorem dX12_isRest_31 : decode cX12_isRest 31 = .ok (.invokevirtual 481, 3) := by decide +kernel
theorem dX12_isRest_34 : decode cX12_isRest 34 = .ok (.ifCond .ne 7, 3) := by decide +kernel
theorem dX12_isRest_37 : decode cX12_isRest 37 = .ok (.iconst 1, 1) := by decide +kernel
theorem dX12_isRest_38 : decode cX12_isRest 38 = .ok (.goto 4, 3) := by decide +kernel
theorem dX12_isRest_41 : decode cX12_isRest 41 = .ok (.iconst 0, 1) := by decide +kernel
theorem dX12_isRest_42 : decode cX12_isRest 42 = .ok (.ireturn, 1) := by decide +kernel
theorem dX12_isRest_43 : decode cX12_isRest 43 = .ok (.aload_n 0, 1) := by decide +kernel
theorem dX12_isRest_44 : decode cX12_isRest 44 = .ok (.lload_n 1, 1) := by decide +kernel
theorem dX12_isRest_45 : decode cX12_isRest 45 = .ok (.invokevirtual 484, 3) := by decide +kernel
theorem dX12_isRest_48 : decode cX12_isRest 48 = .ok (.ifCond .ne 15, 3) := by decide +kernel
theorem dX12_isRest_51 : decode cX12_isRest 51 = .ok (.iload_n 3, 1) := by decide +kernel
theorem dX12_isRest_52 : decode cX12_isRest 52 = .ok (.ifCond .le 13, 3) := by decide +kernel
theorem dX12_isRest_55 : decode cX12_isRest 55 = .ok (.aload_n 0, 1) := by decide +kernel
theorem dX12_isRest_56 : decode cX12_isRest 56 = .ok (.lload_n 1, 1) := by decide +kernel
theorem dX12_isRest_57 : decode cX12_isRest 57 = .ok (.invokevirtual 487, 3) := by decide +kernel
theorem dX12_isRest_60 : decode cX12_isRest 60 = .ok (.ifCond .eq 5, 3) := by decide +kernel
theorem dX12_isRest_63 : decode cX12_isRest 63 = .ok (.iconst 0, 1) := by decide +kernel
theorem dX12_isRest_64 : decode cX12_isRest 64 = .ok (.ireturn, 1) := by decide +kernel
theorem dX12_isRest_65 : decode cX12_isRest 65 = .ok (.iload_n 3, 1) := by decide +kernel
theorem dX12_isRest_66 : decode cX12_isRest 66 = .ok (.iconst 2, 1) := by decide +kernel
theorem dX12_isRest_67 : decode cX12_isRest 67 = .ok (.if_icmp .ne 19, 3) := by decide +kernel
theorem dX12_isRest_70 : decode cX12_isRest 70 = .ok (.aload_n 0, 1) := by decide +kernel
theorem dX12_isRest_71 : decode cX12_isRest 71 = .ok (.lload_n 1, 1) := by decide +kernel
theorem dX12_isRest_72 : decode cX12_isRest 72 = .ok (.invokevirtual 490, 3) := by decide +kernel
theorem dX12_isRest_75 : decode cX12_isRest 75 = .ok (.ifCond .ne 7, 3) := by decide +kernel
theorem dX12_isRest_78 : decode cX12_isRest 78 = .ok (.iconst 1, 1) := by decide +kernel
theorem dX12_isRest_79 : decode cX12_isRest 79 = .ok (.goto 25, 3) := by decide +kernel
theorem dX12_isRest_82 : decode cX12_isRest 82 = .ok (.iconst 0, 1) := by decide +kernel
theorem dX12_isRest_83 : decode cX12_isRest 83 = .ok (.goto 21, 3) := by decide +kernel
theorem dX12_isRest_86 : decode cX12_isRest 86 = .ok (.iload_n 3, 1) := by decide +kernel
theorem dX12_isRest_87 : decode cX12_isRest 87 = .ok (.iconst 3, 1) := by decide +kernel
theorem dX12_isRest_88 : decode cX12_isRest 88 = .ok (.if_icmp .ne 11, 3) := by decide +kernel
theorem dX12_isRest_91 : decode cX12_isRest 91 = .ok (.aload_n 0, 1) := by decide +kernel
theorem dX12_isRest_92 : decode cX12_isRest 92 = .ok (.lload_n 1, 1) := by decide +kernel
theorem dX12_isRest_93 : decode cX12_isRest 93 = .ok (.invokevirtual 493, 3) := by decide +kernel
theorem dX12_isRest_96 : decode cX12_isRest 96 = .ok (.ifCond .ne 7, 3) := by decide +kernel
theorem dX12_isRest_99 : decode cX12_isRest 99 = .ok (.iconst 1, 1) := by decide +kernel
theorem dX12_isRest_100 : decode cX12_isRest 100 = .ok (.goto 4, 3) := by decide +kernel
theorem dX12_isRest_103 : decode cX12_isRest 103 = .ok (.iconst 0, 1) := by decide +kernel
theorem dX12_isRest_104 : decode cX12_isRest 104 = .ok (.ireturn, 1) := by decide +kernel
theorem dX12_rest_0 : decode cX12_rest 0 = .ok (.iload_n 1, 1) := by decide +kernel
theorem dX12_rest_1 : decode cX12_rest 1 = .ok (.i2l, 1) := by decide +kernel
theorem dX12_rest_2 : decode cX12_rest 2 = .ok (.lconst 0, 1) := by decide +kernel
theorem dX12_rest_3 : decode cX12_rest 3 = .ok (.ldc2_w 368, 3) := by decide +kernel
