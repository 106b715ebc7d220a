theorem dX11_gifts_23 : decode cX11_gifts 23 = .ok (.lconst 1, 1) := by decide +kernel
theorem dX11_gifts_24 : decode cX11_gifts 24 = .ok (.lreturn, 1) := by decide +kernel
theorem dX11_gifts_25 : decode cX11_gifts 25 = .ok (.iload_n 1, 1) := by decide +kernel
theorem dX11_gifts_26 : decode cX11_gifts 26 = .ok (.ifCond .eq 12, 3) := by decide +kernel
theorem dX11_gifts_29 : decode cX11_gifts 29 = .ok (.iload_n 1, 1) := by decide +kernel
theorem dX11_gifts_30 : decode cX11_gifts 30 = .ok (.iconst 1, 1) := by decide +kernel
theorem dX11_gifts_31 : decode cX11_gifts 31 = .ok (.if_icmp .eq 7, 3) := by decide +kernel
theorem dX11_gifts_34 : decode cX11_gifts 34 = .ok (.ldc2_w 192, 3) := by decide +kernel
theorem dX11_gifts_37 : decode cX11_gifts 37 = .ok (.lreturn, 1) := by decide +kernel
theorem dX11_gifts_38 : decode cX11_gifts 38 = .ok (.lconst 0, 1) := by decide +kernel
theorem dX11_gifts_39 : decode cX11_gifts 39 = .ok (.lstore_n 2, 1) := by decide +kernel
theorem dX11_gifts_40 : decode cX11_gifts 40 = .ok (.iconst 0, 1) := by decide +kernel
theorem dX11_gifts_41 : decode cX11_gifts 41 = .ok (.istore 4, 2) := by decide +kernel
theorem dX11_gifts_43 : decode cX11_gifts 43 = .ok (.iload 4, 2) := by decide +kernel
theorem dX11_gifts_45 : decode cX11_gifts 45 = .ok (.aload_n 0, 1) := by decide +kernel
theorem dX11_gifts_46 : decode cX11_gifts 46 = .ok (.getfield 28, 3) := by decide +kernel
theorem dX11_gifts_49 : decode cX11_gifts 49 = .ok (.getfield 149, 3) := by decide +kernel
theorem dX11_gifts_52 : decode cX11_gifts 52 = .ok (.if_icmp .ge 79, 3) := by decide +kernel
theorem dX11_gifts_55 : decode cX11_gifts 55 = .ok (.aload_n 0, 1) := by decide +kernel
theorem dX11_gifts_56 : decode cX11_gifts 56 = .ok (.getfield 159, 3) := by decide +kernel
theorem dX11_gifts_59 : decode cX11_gifts 59 = .ok (.iload 4, 2) := by decide +kernel
theorem dX11_gifts_61 : decode cX11_gifts 61 = .ok (.lshr, 1) := by decide +kernel
theorem dX11_gifts_62 : decode cX11_gifts 62 = .ok (.lconst 1, 1) := by decide +kernel
theorem dX11_gifts_63 : decode cX11_gifts 63 = .ok (.land, 1) := by decide +kernel
theorem dX11_gifts_64 : decode cX11_gifts 64 = .ok (.lconst 0, 1) := by decide +kernel
theorem dX11_gifts_65 : decode cX11_gifts 65 = .ok (.lcmp, 1) := by decide +kernel
theorem dX11_gifts_66 : decode cX11_gifts 66 = .ok (.ifCond .eq 59, 3) := by decide +kernel
theorem dX11_gifts_69 : decode cX11_gifts 69 = .ok (.lload_n 2, 1) := by decide +kernel
theorem dX11_gifts_70 : decode cX11_gifts 70 = .ok (.aload_n 0, 1) := by decide +kernel
theorem dX11_gifts_71 : decode cX11_gifts 71 = .ok (.aload_n 0, 1) := by decide +kernel
theorem dX11_gifts_72 : decode cX11_gifts 72 = .ok (.getfield 19, 3) := by decide +kernel
theorem dX11_gifts_75 : decode cX11_gifts 75 = .ok (.getfield 300, 3) := by decide +kernel
theorem dX11_gifts_78 : decode cX11_gifts 78 = .ok (.iload 4, 2) := by decide +kernel
theorem dX11_gifts_80 : decode cX11_gifts 80 = .ok (.iaload, 1) := by decide +kernel
theorem dX11_gifts_81 : decode cX11_gifts 81 = .ok (.iload 4, 2) := by decide +kernel
theorem dX11_gifts_83 : decode cX11_gifts 83 = .ok (.iload_n 1, 1) := by decide +kernel
theorem dX11_gifts_84 : decode cX11_gifts 84 = .ok (.iconst 1, 1) := by decide +kernel
theorem dX11_gifts_85 : decode cX11_gifts 85 = .ok (.if_icmp .ne 7, 3) := by decide +kernel
theorem dX11_gifts_88 : decode cX11_gifts 88 = .ok (.iconst 1, 1) := by decide +kernel
theorem dX11_gifts_89 : decode cX11_gifts 89 = .ok (.goto 4, 3) := by decide +kernel
theorem dX11_gifts_92 : decode cX11_gifts 92 = .ok (.iconst 0, 1) := by decide +kernel
theorem dX11_gifts_93 : decode cX11_gifts 93 = .ok (.invokevirtual 303, 3) := by decide +kernel
theorem dX11_gifts_96 : decode cX11_gifts 96 = .ok (.aload_n 0, 1) := by decide +kernel
theorem dX11_gifts_97 : decode cX11_gifts 97 = .ok (.aload_n 0, 1) := by decide +kernel
theorem dX11_gifts_98 : decode cX11_gifts 98 = .ok (.getfield 19, 3) := by decide +kernel
theorem dX11_gifts_101 : decode cX11_gifts 101 = .ok (.getfield 306, 3) := by decide +kernel
theorem dX11_gifts_104 : decode cX11_gifts 104 = .ok (.iload 4, 2) := by decide +kernel
theorem dX11_gifts_106 : decode cX11_gifts 106 = .ok (.iaload, 1) := by decide +kernel
theorem dX11_gifts_107 : decode cX11_gifts 107 = .ok (.iload 4, 2) := by decide +kernel
theorem dX11_gifts_109 : decode cX11_gifts 109 = .ok (.iload_n 1, 1) := by decide +kernel
theorem dX11_gifts_110 : decode cX11_gifts 110 = .ok (.iconst 1, 1) := by decide +kernel
theorem dX11_gifts_111 : decode cX11_gifts 111 = .ok (.if_icmp .ne 7, 3) := by decide +kernel
theorem dX11_gifts_114 : decode cX11_gifts 114 = .ok (.iconst 1, 1) := by decide +kernel
theorem dX11_gifts_115 : decode cX11_gifts 115 = .ok (.goto 4, 3) := by decide +kernel
theorem dX11_gifts_118 : decode cX11_gifts 118 = .ok (.iconst 0, 1) := by decide +kernel
theorem dX11_gifts_119 : decode cX11_gifts 119 = .ok (.invokevirtual 303, 3) := by decide +kernel
theorem dX11_gifts_122 : decode cX11_gifts 122 = .ok (.ladd, 1) := by decide +kernel
theorem dX11_gifts_123 : decode cX11_gifts 123 = .ok (.ladd, 1) := by decide +kernel
theorem dX11_gifts_124 : decode cX11_gifts 124 = .ok (.lstore_n 2, 1) := by decide +kernel
theorem dX11_gifts_125 : decode cX11_gifts 125 = .ok (.iinc 4 1, 3) := by decide +kernel
theorem dX11_gifts_128 : decode cX11_gifts 128 = .ok (.goto (-85), 3) := by decide +kernel
theorem dX11_gifts_131 : decode cX11_gifts 131 = .ok (.lload_n 2, 1) := by decide +kernel
theorem dX11_gifts_132 : decode cX11_gifts 132 = .ok (.lreturn, 1) := by decide +kernel
theorem dX11_gift_0 : decode cX11_gift 0 = .ok (.iload_n 2, 1) := by decide +kernel
theorem dX11_gift_1 : decode cX11_gift 1 = .ok (.ifCond .lt 27, 3) := by decide +kernel
theorem dX11_gift_4 : decode cX11_gift 4 = .ok (.iload_n 2, 1) := by decide +kernel
theorem dX11_gift_5 : decode cX11_gift 5 = .ok (.aload_n 0, 1) := by decide +kernel
theorem dX11_gift_6 : decode cX11_gift 6 = .ok (.getfield 28, 3) := by decide +kernel
theorem dX11_gift_9 : decode cX11_gift 9 = .ok (.getfield 149, 3) := by decide +kernel
theorem dX11_gift_12 : decode cX11_gift 12 = .ok (.if_icmp .ge 16, 3) := by decide +kernel
theorem dX11_gift_15 : decode cX11_gift 15 = .ok (.aload_n 0, 1) := by decide +kernel
theorem dX11_gift_16 : decode cX11_gift 16 = .ok (.getfield 159, 3) := by decide +kernel
theorem dX11_gift_19 : decode cX11_gift 19 = .ok (.iload_n 2, 1) := by decide +kernel
theorem dX11_gift_20 : decode cX11_gift 20 = .ok (.lshr, 1) := by decide +kernel
theorem dX11_gift_21 : decode cX11_gift 21 = .ok (.lconst 1, 1) := by decide +kernel
theorem dX11_gift_22 : decode cX11_gift 22 = .ok (.land, 1) := by decide +kernel
theorem dX11_gift_23 : decode cX11_gift 23 = .ok (.lconst 0, 1) := by decide +kernel
theorem dX11_gift_24 : decode cX11_gift 24 = .ok (.lcmp, 1) := by decide +kernel
theorem dX11_gift_25 : decode cX11_gift 25 = .ok (.ifCond .ne 7, 3) := by decide +kernel
theorem dX11_gift_28 : decode cX11_gift 28 = .ok (.ldc2_w 192, 3) := by decide +kernel
theorem dX11_gift_31 : decode cX11_gift 31 = .ok (.lreturn, 1) := by decide +kernel
theorem dX11_gift_32 : decode cX11_gift 32 = .ok (.iload_n 1, 1) := by decide +kernel
theorem dX11_gift_33 : decode cX11_gift 33 = .ok (.aload_n 0, 1) := by decide +kernel
theorem dX11_gift_34 : decode cX11_gift 34 = .ok (.getfield 19, 3) := by decide +kernel
theorem dX11_gift_37 : decode cX11_gift 37 = .ok (.getfield 300, 3) := by decide +kernel
theorem dX11_gift_40 : decode cX11_gift 40 = .ok (.iload_n 2, 1) := by decide +kernel
theorem dX11_gift_41 : decode cX11_gift 41 = .ok (.iaload, 1) := by decide +kernel
theorem dX11_gift_42 : decode cX11_gift 42 = .ok (.if_icmp .eq 20, 3) := by decide +kernel
theorem dX11_gift_45 : decode cX11_gift 45 = .ok (.iload_n 1, 1) := by decide +kernel
theorem dX11_gift_46 : decode cX11_gift 46 = .ok (.aload_n 0, 1) := by decide +kernel
theorem dX11_gift_47 : decode cX11_gift 47 = .ok (.getfield 19, 3) := by decide +kernel
theorem dX11_gift_50 : decode cX11_gift 50 = .ok (.getfield 306, 3) := by decide +kernel
theorem dX11_gift_53 : decode cX11_gift 53 = .ok (.iload_n 2, 1) := by decide +kernel
theorem dX11_gift_54 : decode cX11_gift 54 = .ok (.iaload, 1) := by decide +kernel
theorem dX11_gift_55 : decode cX11_gift 55 = .ok (.if_icmp .eq 7, 3) := by decide +kernel
theorem dX11_gift_58 : decode cX11_gift 58 = .ok (.ldc2_w 192, 3) := by decide +kernel
theorem dX11_gift_61 : decode cX11_gift 61 = .ok (.lreturn, 1) := by decide +kernel
theorem dX11_gift_62 : decode cX11_gift 62 = .ok (.aload_n 0, 1) := by decide +kernel
theorem dX11_gift_63 : decode cX11_gift 63 = .ok (.iload_n 1, 1) := by decide +kernel
theorem dX11_gift_64 : decode cX11_gift 64 = .ok (.iload_n 2, 1) := by decide +kernel
theorem dX11_gift_65 : decode cX11_gift 65 = .ok (.iload_n 3, 1) := by decide +kernel
theorem dX11_gift_66 : decode cX11_gift 66 = .ok (.invokevirtual 303, 3) := by decide +kernel
theorem dX11_gift_69 : decode cX11_gift 69 = .ok (.lreturn, 1) := by decide +kernel
theorem dX11_good_0 : decode cX11_good 0 = .ok (.lconst 0, 1) := by decide +kernel
theorem dX11_good_1 : decode cX11_good 1 = .ok (.lstore_n 2, 1) := by decide +kernel
theorem dX11_good_2 : decode cX11_good 2 = .ok (.aload_n 0, 1) := by decide +kernel
theorem dX11_good_3 : decode cX11_good 3 = .ok (.getfield 53, 3) := by decide +kernel
theorem dX11_good_6 : decode cX11_good 6 = .ok (.aload_n 0, 1) := by decide +kernel
theorem dX11_good_7 : decode cX11_good 7 = .ok (.getfield 159, 3) := by decide +kernel
theorem dX11_good_10 : decode cX11_good 10 = .ok (.invokevirtual 201, 3) := by decide +kernel
theorem dX11_good_13 : decode cX11_good 13 = .ok (.lstore 4, 2) := by decide +kernel
theorem dX11_good_15 : decode cX11_good 15 = .ok (.iconst 0, 1) := by decide +kernel
theorem dX11_good_16 : decode cX11_good 16 = .ok (.istore 6, 2) := by decide +kernel
theorem dX11_good_18 : decode cX11_good 18 = .ok (.iload 6, 2) := by decide +kernel
theorem dX11_good_20 : decode cX11_good 20 = .ok (.aload_n 0, 1) := by decide +kernel
theorem dX11_good_21 : decode cX11_good 21 = .ok (.getfield 28, 3) := by decide +kernel
theorem dX11_good_24 : decode cX11_good 24 = .ok (.getfield 149, 3) := by decide +kernel
theorem dX11_good_27 : decode cX11_good 27 = .ok (.if_icmp .ge 98, 3) := by decide +kernel
theorem dX11_good_30 : decode cX11_good 30 = .ok (.lconst 1, 1) := by decide +kernel
theorem dX11_good_31 : decode cX11_good 31 = .ok (.iload 6, 2) := by decide +kernel
theorem dX11_good_33 : decode cX11_good 33 = .ok (.lshl, 1) := by decide +kernel
theorem dX11_good_34 : decode cX11_good 34 = .ok (.lstore 7, 2) := by decide +kernel
theorem dX11_good_36 : decode cX11_good 36 = .ok (.aload_n 0, 1) := by decide +kernel
theorem dX11_good_37 : decode cX11_good 37 = .ok (.getfield 159, 3) := by decide +kernel
theorem dX11_good_40 : decode cX11_good 40 = .ok (.lload 7, 2) := by decide +kernel
theorem dX11_good_42 : decode cX11_good 42 = .ok (.land, 1) := by decide +kernel
theorem dX11_good_43 : decode cX11_good 43 = .ok (.lconst 0, 1) := by decide +kernel
theorem dX11_good_44 : decode cX11_good 44 = .ok (.lcmp, 1) := by decide +kernel
theorem dX11_good_45 : decode cX11_good 45 = .ok (.ifCond .eq 7, 3) := by decide +kernel
theorem dX11_good_48 : decode cX11_good 48 = .ok (.iconst 1, 1) := by decide +kernel
theorem dX11_good_49 : decode cX11_good 49 = .ok (.goto 4, 3) := by decide +kernel
theorem dX11_good_52 : decode cX11_good 52 = .ok (.iconst 0, 1) := by decide +kernel
theorem dX11_good_53 : decode cX11_good 53 = .ok (.istore 9, 2) := by decide +kernel
theorem dX11_good_55 : decode cX11_good 55 = .ok (.iload 9, 2) := by decide +kernel
theorem dX11_good_57 : decode cX11_good 57 = .ok (.iload_n 1, 1) := by decide +kernel
theorem dX11_good_58 : decode cX11_good 58 = .ok (.if_icmp .ne 61, 3) := by decide +kernel
theorem dX11_good_61 : decode cX11_good 61 = .ok (.aload_n 0, 1) := by decide +kernel
theorem dX11_good_62 : decode cX11_good 62 = .ok (.getfield 28, 3) := by decide +kernel
theorem dX11_good_65 : decode cX11_good 65 = .ok (.aload_n 0, 1) := by decide +kernel
theorem dX11_good_66 : decode cX11_good 66 = .ok (.getfield 159, 3) := by decide +kernel
theorem dX11_good_69 : decode cX11_good 69 = .ok (.lload 7, 2) := by decide +kernel
theorem dX11_good_71 : decode cX11_good 71 = .ok (.lxor, 1) := by decide +kernel
theorem dX11_good_72 : decode cX11_good 72 = .ok (.invokevirtual 182, 3) := by decide +kernel
theorem dX11_good_75 : decode cX11_good 75 = .ok (.ifCond .eq 44, 3) := by decide +kernel
theorem dX11_good_78 : decode cX11_good 78 = .ok (.aload_n 0, 1) := by decide +kernel
theorem dX11_good_79 : decode cX11_good 79 = .ok (.getfield 53, 3) := by decide +kernel
theorem dX11_good_82 : decode cX11_good 82 = .ok (.aload_n 0, 1) := by decide +kernel
theorem dX11_good_83 : decode cX11_good 83 = .ok (.getfield 159, 3) := by decide +kernel
theorem dX11_good_86 : decode cX11_good 86 = .ok (.lload 7, 2) := by decide +kernel
theorem dX11_good_88 : decode cX11_good 88 = .ok (.lxor, 1) := by decide +kernel
theorem dX11_good_89 : decode cX11_good 89 = .ok (.invokevirtual 201, 3) := by decide +kernel
theorem dX11_good_92 : decode cX11_good 92 = .ok (.lload 4, 2) := by decide +kernel
theorem dX11_good_94 : decode cX11_good 94 = .ok (.lcmp, 1) := by decide +kernel
theorem dX11_good_95 : decode cX11_good 95 = .ok (.ifCond .le 24, 3) := by decide +kernel
theorem dX11_good_98 : decode cX11_good 98 = .ok (.aload_n 0, 1) := by decide +kernel
theorem dX11_good_99 : decode cX11_good 99 = .ok (.getfield 62, 3) := by decide +kernel
theorem dX11_good_102 : decode cX11_good 102 = .ok (.aload_n 0, 1) := by decide +kernel
theorem dX11_good_103 : decode cX11_good 103 = .ok (.getfield 159, 3) := by decide +kernel
theorem dX11_good_106 : decode cX11_good 106 = .ok (.iload 6, 2) := by decide +kernel
theorem dX11_good_108 : decode cX11_good 108 = .ok (.invokevirtual 309, 3) := by decide +kernel
theorem dX11_good_111 : decode cX11_good 111 = .ok (.ifCond .ne 8, 3) := by decide +kernel
theorem dX11_good_114 : decode cX11_good 114 = .ok (.lload_n 2, 1) := by decide +kernel
theorem dX11_good_115 : decode cX11_good 115 = .ok (.lload 7, 2) := by decide +kernel
theorem dX11_good_117 : decode cX11_good 117 = .ok (.lor, 1) := by decide +kernel
theorem dX11_good_118 : decode cX11_good 118 = .ok (.lstore_n 2, 1) := by decide +kernel
theorem dX11_good_119 : decode cX11_good 119 = .ok (.iinc 6 1, 3) := by decide +kernel
theorem dX11_good_122 : decode cX11_good 122 = .ok (.goto (-104), 3) := by decide +kernel
theorem dX11_good_125 : decode cX11_good 125 = .ok (.lload_n 2, 1) := by decide +kernel
theorem dX11_good_126 : decode cX11_good 126 = .ok (.lreturn, 1) := by decide +kernel
theorem dX11_edge_0 : decode cX11_edge 0 = .ok (.iload_n 1, 1) := by decide +kernel
theorem dX11_edge_1 : decode cX11_edge 1 = .ok (.invokestatic 221, 3) := by decide +kernel
theorem dX11_edge_4 : decode cX11_edge 4 = .ok (.ifCond .eq 48, 3) := by decide +kernel
theorem dX11_edge_7 : decode cX11_edge 7 = .ok (.iload_n 1, 1) := by decide +kernel
theorem dX11_edge_8 : decode cX11_edge 8 = .ok (.iconst 5, 1) := by decide +kernel
theorem dX11_edge_9 : decode cX11_edge 9 = .ok (.if_icmp .eq 43, 3) := by decide +kernel
theorem dX11_edge_12 : decode cX11_edge 12 = .ok (.aload_n 0, 1) := by decide +kernel
theorem dX11_edge_13 : decode cX11_edge 13 = .ok (.getfield 28, 3) := by decide +kernel
theorem dX11_edge_16 : decode cX11_edge 16 = .ok (.getfield 146, 3) := by decide +kernel
theorem dX11_edge_19 : decode cX11_edge 19 = .ok (.bipush 6, 2) := by decide +kernel
theorem dX11_edge_21 : decode cX11_edge 21 = .ok (.if_icmp .gt 31, 3) := by decide +kernel
theorem dX11_edge_24 : decode cX11_edge 24 = .ok (.iload_n 2, 1) := by decide +kernel
theorem dX11_edge_25 : decode cX11_edge 25 = .ok (.invokestatic 198, 3) := by decide +kernel
theorem dX11_edge_28 : decode cX11_edge 28 = .ok (.ifCond .eq 24, 3) := by decide +kernel
theorem dX11_edge_31 : decode cX11_edge 31 = .ok (.iload_n 3, 1) := by decide +kernel
theorem dX11_edge_32 : decode cX11_edge 32 = .ok (.invokestatic 198, 3) := by decide +kernel
theorem dX11_edge_35 : decode cX11_edge 35 = .ok (.ifCond .eq 17, 3) := by decide +kernel
theorem dX11_edge_38 : decode cX11_edge 38 = .ok (.iload_n 2, 1) := by decide +kernel
theorem dX11_edge_39 : decode cX11_edge 39 = .ok (.iload_n 3, 1) := by decide +kernel
theorem dX11_edge_40 : decode cX11_edge 40 = .ok (.if_icmp .gt 12, 3) := by decide +kernel
theorem dX11_edge_43 : decode cX11_edge 43 = .ok (.iload_n 3, 1) := by decide +kernel
theorem dX11_edge_44 : decode cX11_edge 44 = .ok (.iload_n 2, 1) := by decide +kernel
theorem dX11_edge_45 : decode cX11_edge 45 = .ok (.isub, 1) := by decide +kernel
theorem dX11_edge_46 : decode cX11_edge 46 = .ok (.sipush 200, 3) := by decide +kernel
theorem dX11_edge_49 : decode cX11_edge 49 = .ok (.if_icmp .le 7, 3) := by decide +kernel
theorem dX11_edge_52 : decode cX11_edge 52 = .ok (.ldc_w 313, 3) := by decide +kernel
theorem dX11_edge_55 : decode cX11_edge 55 = .ok (.ireturn, 1) := by decide +kernel
theorem dX11_edge_56 : decode cX11_edge 56 = .ok (.aload_n 0, 1) := by decide +kernel
theorem dX11_edge_57 : decode cX11_edge 57 = .ok (.getfield 53, 3) := by decide +kernel
theorem dX11_edge_60 : decode cX11_edge 60 = .ok (.getfield 156, 3) := by decide +kernel
theorem dX11_edge_63 : decode cX11_edge 63 = .ok (.istore 5, 2) := by decide +kernel
theorem dX11_edge_65 : decode cX11_edge 65 = .ok (.ldc_w 314, 3) := by decide +kernel
theorem dX11_edge_68 : decode cX11_edge 68 = .ok (.istore 6, 2) := by decide +kernel
theorem dX11_edge_70 : decode cX11_edge 70 = .ok (.iconst 0, 1) := by decide +kernel
theorem dX11_edge_71 : decode cX11_edge 71 = .ok (.istore 7, 2) := by decide +kernel
theorem dX11_edge_73 : decode cX11_edge 73 = .ok (.iload 7, 2) := by decide +kernel
theorem dX11_edge_75 : decode cX11_edge 75 = .ok (.iload_n 3, 1) := by decide +kernel
theorem dX11_edge_76 : decode cX11_edge 76 = .ok (.iload_n 2, 1) := by decide +kernel
theorem dX11_edge_77 : decode cX11_edge 77 = .ok (.isub, 1) := by decide +kernel
theorem dX11_edge_78 : decode cX11_edge 78 = .ok (.if_icmp .gt 64, 3) := by decide +kernel
theorem dX11_edge_81 : decode cX11_edge 81 = .ok (.iload 6, 2) := by decide +kernel
theorem dX11_edge_83 : decode cX11_edge 83 = .ok (.ldc_w 314, 3) := by decide +kernel
theorem dX11_edge_86 : decode cX11_edge 86 = .ok (.if_icmp .ne 56, 3) := by decide +kernel
theorem dX11_edge_89 : decode cX11_edge 89 = .ok (.iload 4, 2) := by decide +kernel
theorem dX11_edge_91 : decode cX11_edge 91 = .ok (.ifCond .eq 10, 3) := by decide +kernel
theorem dX11_edge_94 : decode cX11_edge 94 = .ok (.iload_n 3, 1) := by decide +kernel
theorem dX11_edge_95 : decode cX11_edge 95 = .ok (.iload 7, 2) := by decide +kernel
theorem dX11_edge_97 : decode cX11_edge 97 = .ok (.isub, 1) := by decide +kernel
theorem dX11_edge_98 : decode cX11_edge 98 = .ok (.goto 7, 3) := by decide +kernel
theorem dX11_edge_101 : decode cX11_edge 101 = .ok (.iload_n 2, 1) := by decide +kernel
theorem dX11_edge_102 : decode cX11_edge 102 = .ok (.iload 7, 2) := by decide +kernel
theorem dX11_edge_104 : decode cX11_edge 104 = .ok (.iadd, 1) := by decide +kernel
theorem dX11_edge_105 : decode cX11_edge 105 = .ok (.istore 8, 2) := by decide +kernel
theorem dX11_edge_107 : decode cX11_edge 107 = .ok (.aload_n 0, 1) := by decide +kernel
theorem dX11_edge_108 : decode cX11_edge 108 = .ok (.getfield 53, 3) := by decide +kernel
theorem dX11_edge_111 : decode cX11_edge 111 = .ok (.iload 8, 2) := by decide +kernel
theorem dX11_edge_113 : decode cX11_edge 113 = .ok (.putfield 156, 3) := by decide +kernel
theorem dX11_edge_116 : decode cX11_edge 116 = .ok (.aload_n 0, 1) := by decide +kernel
theorem dX11_edge_117 : decode cX11_edge 117 = .ok (.getfield 62, 3) := by decide +kernel
theorem dX11_edge_120 : decode cX11_edge 120 = .ok (.aload_n 0, 1) := by decide +kernel
theorem dX11_edge_121 : decode cX11_edge 121 = .ok (.getfield 159, 3) := by decide +kernel
theorem dX11_edge_124 : decode cX11_edge 124 = .ok (.iload_n 1, 1) := by decide +kernel
theorem dX11_edge_125 : decode cX11_edge 125 = .ok (.iconst 0, 1) := by decide +kernel
theorem dX11_edge_126 : decode cX11_edge 126 = .ok (.invokevirtual 224, 3) := by decide +kernel
theorem dX11_edge_129 : decode cX11_edge 129 = .ok (.ifCond .ne 7, 3) := by decide +kernel
theorem dX11_edge_132 : decode cX11_edge 132 = .ok (.iload 8, 2) := by decide +kernel
theorem dX11_edge_134 : decode cX11_edge 134 = .ok (.istore 6, 2) := by decide +kernel
theorem dX11_edge_136 : decode cX11_edge 136 = .ok (.iinc 7 1, 3) := by decide +kernel
theorem dX11_edge_139 : decode cX11_edge 139 = .ok (.goto (-66), 3) := by decide +kernel
theorem dX11_edge_142 : decode cX11_edge 142 = .ok (.aload_n 0, 1) := by decide +kernel
theorem dX11_edge_143 : decode cX11_edge 143 = .ok (.getfield 53, 3) := by decide +kernel
theorem dX11_edge_146 : decode cX11_edge 146 = .ok (.iload 5, 2) := by decide +kernel
theorem dX11_edge_148 : decode cX11_edge 148 = .ok (.putfield 156, 3) := by decide +kernel
theorem dX11_edge_151 : decode cX11_edge 151 = .ok (.iload 6, 2) := by decide +kernel
theorem dX11_edge_153 : decode cX11_edge 153 = .ok (.ireturn, 1) := by decide +kernel
theorem dX11_lie_0 : decode cX11_lie 0 = .ok (.aload_n 0, 1) := by decide +kernel
theorem dX11_lie_1 : decode cX11_lie 1 = .ok (.getfield 28, 3) := by decide +kernel
theorem dX11_lie_4 : decode cX11_lie 4 = .ok (.iload_n 1, 1) := by decide +kernel
theorem dX11_lie_5 : decode cX11_lie 5 = .ok (.invokevirtual 169, 3) := by decide +kernel
theorem dX11_lie_8 : decode cX11_lie 8 = .ok (.ifCond .eq 15, 3) := by decide +kernel
theorem dX11_lie_11 : decode cX11_lie 11 = .ok (.aload_n 0, 1) := by decide +kernel
theorem dX11_lie_12 : decode cX11_lie 12 = .ok (.getfield 28, 3) := by decide +kernel
theorem dX11_lie_15 : decode cX11_lie 15 = .ok (.getfield 146, 3) := by decide +kernel
theorem dX11_lie_18 : decode cX11_lie 18 = .ok (.bipush 6, 2) := by decide +kernel
theorem dX11_lie_20 : decode cX11_lie 20 = .ok (.if_icmp .le 5, 3) := by decide +kernel
theorem dX11_lie_23 : decode cX11_lie 23 = .ok (.iconst (-1), 1) := by decide +kernel
theorem dX11_lie_24 : decode cX11_lie 24 = .ok (.ireturn, 1) := by decide +kernel
theorem dX11_lie_25 : decode cX11_lie 25 = .ok (.iconst (-1), 1) := by decide +kernel
theorem dX11_lie_26 : decode cX11_lie 26 = .ok (.istore_n 2, 1) := by decide +kernel
theorem dX11_lie_27 : decode cX11_lie 27 = .ok (.iconst 0, 1) := by decide +kernel
theorem dX11_lie_28 : decode cX11_lie 28 = .ok (.istore_n 3, 1) := by decide +kernel
theorem dX11_lie_29 : decode cX11_lie 29 = .ok (.iload_n 3, 1) := by decide +kernel
theorem dX11_lie_30 : decode cX11_lie 30 = .ok (.bipush 20, 2) := by decide +kernel
theorem dX11_lie_32 : decode cX11_lie 32 = .ok (.if_icmp .gt 103, 3) := by decide +kernel
theorem dX11_lie_35 : decode cX11_lie 35 = .ok (.aload_n 0, 1) := by decide +kernel
theorem dX11_lie_36 : decode cX11_lie 36 = .ok (.getfield 53, 3) := by decide +kernel
theorem dX11_lie_39 : decode cX11_lie 39 = .ok (.iload_n 1, 1) := by decide +kernel
theorem dX11_lie_40 : decode cX11_lie 40 = .ok (.iload_n 3, 1) := by decide +kernel
theorem dX11_lie_41 : decode cX11_lie 41 = .ok (.invokevirtual 315, 3) := by decide +kernel
theorem dX11_lie_44 : decode cX11_lie 44 = .ok (.aload_n 0, 1) := by decide +kernel
theorem dX11_lie_45 : decode cX11_lie 45 = .ok (.getfield 71, 3) := by decide +kernel
theorem dX11_lie_48 : decode cX11_lie 48 = .ok (.lconst 0, 1) := by decide +kernel
theorem dX11_lie_49 : decode cX11_lie 49 = .ok (.invokevirtual 244, 3) := by decide +kernel
theorem dX11_lie_52 : decode cX11_lie 52 = .ok (.aload_n 0, 1) := by decide +kernel
theorem dX11_lie_53 : decode cX11_lie 53 = .ok (.getfield 53, 3) := by decide +kernel
theorem dX11_lie_56 : decode cX11_lie 56 = .ok (.iconst (-1), 1) := by decide +kernel
theorem dX11_lie_57 : decode cX11_lie 57 = .ok (.iconst 0, 1) := by decide +kernel
theorem dX11_lie_58 : decode cX11_lie 58 = .ok (.invokevirtual 315, 3) := by decide +kernel
theorem dX11_lie_61 : decode cX11_lie 61 = .ok (.aload_n 0, 1) := by decide +kernel
theorem dX11_lie_62 : decode cX11_lie 62 = .ok (.getfield 71, 3) := by decide +kernel
theorem dX11_lie_65 : decode cX11_lie 65 = .ok (.getfield 257, 3) := by decide +kernel
theorem dX11_lie_68 : decode cX11_lie 68 = .ok (.ifCond .eq 23, 3) := by decide +kernel
theorem dX11_lie_71 : decode cX11_lie 71 = .ok (.aload_n 0, 1) := by decide +kernel
theorem dX11_lie_72 : decode cX11_lie 72 = .ok (.getfield 71, 3) := by decide +kernel
theorem dX11_lie_75 : decode cX11_lie 75 = .ok (.getfield 251, 3) := by decide +kernel
theorem dX11_lie_78 : decode cX11_lie 78 = .ok (.ifCond .ne 13, 3) := by decide +kernel
theorem dX11_lie_81 : decode cX11_lie 81 = .ok (.aload_n 0, 1) := by decide +kernel
theorem dX11_lie_82 : decode cX11_lie 82 = .ok (.getfield 71, 3) := by decide +kernel
theorem dX11_lie_85 : decode cX11_lie 85 = .ok (.invokevirtual 247, 3) := by decide +kernel
theorem dX11_lie_88 : decode cX11_lie 88 = .ok (.goto 4, 3) := by decide +kernel
theorem dX11_lie_91 : decode cX11_lie 91 = .ok (.lconst 0, 1) := by decide +kernel
theorem dX11_lie_92 : decode cX11_lie 92 = .ok (.lstore 4, 2) := by decide +kernel
theorem dX11_lie_94 : decode cX11_lie 94 = .ok (.aload_n 0, 1) := by decide +kernel
theorem dX11_lie_95 : decode cX11_lie 95 = .ok (.getfield 53, 3) := by decide +kernel
theorem dX11_lie_98 : decode cX11_lie 98 = .ok (.lload 4, 2) := by decide +kernel
theorem dX11_lie_100 : decode cX11_lie 100 = .ok (.iload_n 1, 1) := by decide +kernel
theorem dX11_lie_101 : decode cX11_lie 101 = .ok (.invokevirtual 205, 3) := by decide +kernel
theorem dX11_lie_104 : decode cX11_lie 104 = .ok (.lstore 6, 2) := by decide +kernel
theorem dX11_lie_106 : decode cX11_lie 106 = .ok (.iload_n 2, 1) := by decide +kernel
theorem dX11_lie_107 : decode cX11_lie 107 = .ok (.iconst (-1), 1) := by decide +kernel
theorem dX11_lie_108 : decode cX11_lie 108 = .ok (.if_icmp .eq 13, 3) := by decide +kernel
theorem dX11_lie_111 : decode cX11_lie 111 = .ok (.lload 6, 2) := by decide +kernel
theorem dX11_lie_113 : decode cX11_lie 113 = .ok (.aload_n 0, 1) := by decide +kernel
theorem dX11_lie_114 : decode cX11_lie 114 = .ok (.getfield 319, 3) := by decide +kernel
theorem dX11_lie_117 : decode cX11_lie 117 = .ok (.lcmp, 1) := by decide +kernel
theorem dX11_lie_118 : decode cX11_lie 118 = .ok (.ifCond .le 11, 3) := by decide +kernel
theorem dX11_lie_121 : decode cX11_lie 121 = .ok (.iload_n 3, 1) := by decide +kernel
theorem dX11_lie_122 : decode cX11_lie 122 = .ok (.istore_n 2, 1) := by decide +kernel
theorem dX11_lie_123 : decode cX11_lie 123 = .ok (.aload_n 0, 1) := by decide +kernel
theorem dX11_lie_124 : decode cX11_lie 124 = .ok (.lload 6, 2) := by decide +kernel
theorem dX11_lie_126 : decode cX11_lie 126 = .ok (.putfield 319, 3) := by decide +kernel
theorem dX11_lie_129 : decode cX11_lie 129 = .ok (.iinc 3 1, 3) := by decide +kernel
theorem dX11_lie_132 : decode cX11_lie 132 = .ok (.goto (-103), 3) := by decide +kernel
theorem dX11_lie_135 : decode cX11_lie 135 = .ok (.iload_n 2, 1) := by decide +kernel
theorem dX11_lie_136 : decode cX11_lie 136 = .ok (.ireturn, 1) := by decide +kernel
theorem dX11_lied_0 : decode cX11_lied 0 = .ok (.aload_n 0, 1) := by decide +kernel
theorem dX11_lied_1 : decode cX11_lied 1 = .ok (.getfield 319, 3) := by decide +kernel
theorem dX11_lied_4 : decode cX11_lied 4 = .ok (.lreturn, 1) := by decide +kernel
theorem dX11_image_0 : decode cX11_image 0 = .ok (.aload_n 0, 1) := by decide +kernel
theorem dX11_image_1 : decode cX11_image 1 = .ok (.getfield 98, 3) := by decide +kernel
theorem dX11_image_4 : decode cX11_image 4 = .ok (.iconst 0, 1) := by decide +kernel
theorem dX11_image_5 : decode cX11_image 5 = .ok (.aload_n 0, 1) := by decide +kernel
theorem dX11_image_6 : decode cX11_image 6 = .ok (.getfield 28, 3) := by decide +kernel
theorem dX11_image_9 : decode cX11_image 9 = .ok (.getfield 146, 3) := by decide +kernel
theorem dX11_image_12 : decode cX11_image 12 = .ok (.iastore, 1) := by decide +kernel
theorem dX11_image_13 : decode cX11_image 13 = .ok (.iconst 1, 1) := by decide +kernel
theorem dX11_image_14 : decode cX11_image 14 = .ok (.istore_n 1, 1) := by decide +kernel
theorem dX11_image_15 : decode cX11_image 15 = .ok (.iload_n 1, 1) := by decide +kernel
theorem dX11_image_16 : decode cX11_image 16 = .ok (.bipush 6, 2) := by decide +kernel
theorem dX11_image_18 : decode cX11_image 18 = .ok (.if_icmp .gt 32, 3) := by decide +kernel
theorem dX11_image_21 : decode cX11_image 21 = .ok (.aload_n 0, 1) := by decide +kernel
theorem dX11_image_22 : decode cX11_image 22 = .ok (.getfield 98, 3) := by decide +kernel
theorem dX11_image_25 : decode cX11_image 25 = .ok (.iload_n 1, 1) := by decide +kernel
theorem dX11_image_26 : decode cX11_image 26 = .ok (.aload_n 0, 1) := by decide +kernel
theorem dX11_image_27 : decode cX11_image 27 = .ok (.getfield 159, 3) := by decide +kernel
theorem dX11_image_30 : decode cX11_image 30 = .ok (.bipush 8, 2) := by decide +kernel
theorem dX11_image_32 : decode cX11_image 32 = .ok (.bipush 6, 2) := by decide +kernel
theorem dX11_image_34 : decode cX11_image 34 = .ok (.iload_n 1, 1) := by decide +kernel
theorem dX11_image_35 : decode cX11_image 35 = .ok (.isub, 1) := by decide +kernel
theorem dX11_image_36 : decode cX11_image 36 = .ok (.imul, 1) := by decide +kernel
theorem dX11_image_37 : decode cX11_image 37 = .ok (.lshr, 1) := by decide +kernel
theorem dX11_image_38 : decode cX11_image 38 = .ok (.l2i, 1) := by decide +kernel
theorem dX11_image_39 : decode cX11_image 39 = .ok (.sipush 255, 3) := by decide +kernel
theorem dX11_image_42 : decode cX11_image 42 = .ok (.iand, 1) := by decide +kernel
theorem dX11_image_43 : decode cX11_image 43 = .ok (.iastore, 1) := by decide +kernel
theorem dX11_image_44 : decode cX11_image 44 = .ok (.iinc 1 1, 3) := by decide +kernel
theorem dX11_image_47 : decode cX11_image 47 = .ok (.goto (-32), 3) := by decide +kernel
theorem dX11_image_50 : decode cX11_image 50 = .ok (.aload_n 0, 1) := by decide +kernel
theorem dX11_image_51 : decode cX11_image 51 = .ok (.getfield 53, 3) := by decide +kernel
theorem dX11_image_54 : decode cX11_image 54 = .ok (.getfield 156, 3) := by decide +kernel
theorem dX11_image_57 : decode cX11_image 57 = .ok (.sipush 1000, 3) := by decide +kernel
theorem dX11_image_60 : decode cX11_image 60 = .ok (.iadd, 1) := by decide +kernel
theorem dX11_image_61 : decode cX11_image 61 = .ok (.istore_n 1, 1) := by decide +kernel
theorem dX11_image_62 : decode cX11_image 62 = .ok (.aload_n 0, 1) := by decide +kernel
theorem dX11_image_63 : decode cX11_image 63 = .ok (.getfield 98, 3) := by decide +kernel
theorem dX11_image_66 : decode cX11_image 66 = .ok (.bipush 7, 2) := by decide +kernel
theorem dX11_image_68 : decode cX11_image 68 = .ok (.iload_n 1, 1) := by decide +kernel
theorem dX11_image_69 : decode cX11_image 69 = .ok (.bipush 8, 2) := by decide +kernel
theorem dX11_image_71 : decode cX11_image 71 = .ok (.ishr, 1) := by decide +kernel
theorem dX11_image_72 : decode cX11_image 72 = .ok (.iastore, 1) := by decide +kernel
theorem dX11_image_73 : decode cX11_image 73 = .ok (.aload_n 0, 1) := by decide +kernel
theorem dX11_image_74 : decode cX11_image 74 = .ok (.getfield 98, 3) := by decide +kernel
theorem dX11_image_77 : decode cX11_image 77 = .ok (.bipush 8, 2) := by decide +kernel
theorem dX11_image_79 : decode cX11_image 79 = .ok (.iload_n 1, 1) := by decide +kernel
theorem dX11_image_80 : decode cX11_image 80 = .ok (.sipush 255, 3) := by decide +kernel
theorem dX11_image_83 : decode cX11_image 83 = .ok (.iand, 1) := by decide +kernel
theorem dX11_image_84 : decode cX11_image 84 = .ok (.iastore, 1) := by decide +kernel
theorem dX11_image_85 : decode cX11_image 85 = .ok (.iconst 0, 1) := by decide +kernel
theorem dX11_image_86 : decode cX11_image 86 = .ok (.istore_n 2, 1) := by decide +kernel
theorem dX11_image_87 : decode cX11_image 87 = .ok (.iconst 0, 1) := by decide +kernel
theorem dX11_image_88 : decode cX11_image 88 = .ok (.istore_n 3, 1) := by decide +kernel
theorem dX11_image_89 : decode cX11_image 89 = .ok (.iload_n 3, 1) := by decide +kernel
theorem dX11_image_90 : decode cX11_image 90 = .ok (.bipush 9, 2) := by decide +kernel
theorem dX11_image_92 : decode cX11_image 92 = .ok (.if_icmp .ge 18, 3) := by decide +kernel
theorem dX11_image_95 : decode cX11_image 95 = .ok (.iload_n 2, 1) := by decide +kernel
theorem dX11_image_96 : decode cX11_image 96 = .ok (.aload_n 0, 1) := by decide +kernel
theorem dX11_image_97 : decode cX11_image 97 = .ok (.getfield 98, 3) := by decide +kernel
theorem dX11_image_100 : decode cX11_image 100 = .ok (.iload_n 3, 1) := by decide +kernel
theorem dX11_image_101 : decode cX11_image 101 = .ok (.iaload, 1) := by decide +kernel
theorem dX11_image_102 : decode cX11_image 102 = .ok (.ixor, 1) := by decide +kernel
theorem dX11_image_103 : decode cX11_image 103 = .ok (.istore_n 2, 1) := by decide +kernel
theorem dX11_image_104 : decode cX11_image 104 = .ok (.iinc 3 1, 3) := by decide +kernel
theorem dX11_image_107 : decode cX11_image 107 = .ok (.goto (-18), 3) := by decide +kernel
theorem dX11_image_110 : decode cX11_image 110 = .ok (.aload_n 0, 1) := by decide +kernel
theorem dX11_image_111 : decode cX11_image 111 = .ok (.getfield 98, 3) := by decide +kernel
theorem dX11_image_114 : decode cX11_image 114 = .ok (.bipush 9, 2) := by decide +kernel
theorem dX11_image_116 : decode cX11_image 116 = .ok (.iload_n 2, 1) := by decide +kernel
theorem dX11_image_117 : decode cX11_image 117 = .ok (.iastore, 1) := by decide +kernel
theorem dX11_image_118 : decode cX11_image 118 = .ok (.bipush 10, 2) := by decide +kernel
theorem dX11_image_120 : decode cX11_image 120 = .ok (.ireturn, 1) := by decide +kernel
theorem dX11_octet_0 : decode cX11_octet 0 = .ok (.iload_n 1, 1) := by decide +kernel
theorem dX11_octet_1 : decode cX11_octet 1 = .ok (.ifCond .lt 21, 3) := by decide +kernel
theorem dX11_octet_4 : decode cX11_octet 4 = .ok (.iload_n 1, 1) := by decide +kernel
theorem dX11_octet_5 : decode cX11_octet 5 = .ok (.aload_n 0, 1) := by decide +kernel
theorem dX11_octet_6 : decode cX11_octet 6 = .ok (.getfield 98, 3) := by decide +kernel
theorem dX11_octet_9 : decode cX11_octet 9 = .ok (.arraylength, 1) := by decide +kernel
theorem dX11_octet_10 : decode cX11_octet 10 = .ok (.if_icmp .ge 12, 3) := by decide +kernel
theorem dX11_octet_13 : decode cX11_octet 13 = .ok (.aload_n 0, 1) := by decide +kernel
theorem dX11_octet_14 : decode cX11_octet 14 = .ok (.getfield 98, 3) := by decide +kernel
theorem dX11_octet_17 : decode cX11_octet 17 = .ok (.iload_n 1, 1) := by decide +kernel
theorem dX11_octet_18 : decode cX11_octet 18 = .ok (.iaload, 1) := by decide +kernel
theorem dX11_octet_19 : decode cX11_octet 19 = .ok (.goto 4, 3) := by decide +kernel
theorem dX11_octet_22 : decode cX11_octet 22 = .ok (.iconst (-1), 1) := by decide +kernel
theorem dX11_octet_23 : decode cX11_octet 23 = .ok (.ireturn, 1) := by decide +kernel
theorem dX11_on_0 : decode cX11_on 0 = .ok (.aload_n 0, 1) := by decide +kernel
theorem dX11_on_1 : decode cX11_on 1 = .ok (.getfield 10, 3) := by decide +kernel
theorem dX11_on_4 : decode cX11_on 4 = .ok (.getfield 117, 3) := by decide +kernel
theorem dX11_on_7 : decode cX11_on 7 = .ok (.bipush 10, 2) := by decide +kernel
theorem dX11_on_9 : decode cX11_on 9 = .ok (.if_icmp .ne 70, 3) := by decide +kernel
theorem dX11_on_12 : decode cX11_on 12 = .ok (.aload_n 0, 1) := by decide +kernel
theorem dX11_on_13 : decode cX11_on 13 = .ok (.getfield 10, 3) := by decide +kernel
theorem dX11_on_16 : decode cX11_on 16 = .ok (.invokevirtual 322, 3) := by decide +kernel
theorem dX11_on_19 : decode cX11_on 19 = .ok (.ifCond .ne 60, 3) := by decide +kernel
theorem dX11_on_22 : decode cX11_on 22 = .ok (.aload_n 0, 1) := by decide +kernel
theorem dX11_on_23 : decode cX11_on 23 = .ok (.getfield 10, 3) := by decide +kernel
theorem dX11_on_26 : decode cX11_on 26 = .ok (.iconst 0, 1) := by decide +kernel
theorem dX11_on_27 : decode cX11_on 27 = .ok (.iconst 1, 1) := by decide +kernel
theorem dX11_on_28 : decode cX11_on 28 = .ok (.invokevirtual 326, 3) := by decide +kernel
theorem dX11_on_31 : decode cX11_on 31 = .ok (.aload_n 0, 1) := by decide +kernel
theorem dX11_on_32 : decode cX11_on 32 = .ok (.getfield 28, 3) := by decide +kernel
theorem dX11_on_35 : decode cX11_on 35 = .ok (.getfield 146, 3) := by decide +kernel
theorem dX11_on_38 : decode cX11_on 38 = .ok (.i2l, 1) := by decide +kernel
theorem dX11_on_39 : decode cX11_on 39 = .ok (.lcmp, 1) := by decide +kernel
theorem dX11_on_40 : decode cX11_on 40 = .ok (.ifCond .ne 39, 3) := by decide +kernel
theorem dX11_on_43 : decode cX11_on 43 = .ok (.aload_n 0, 1) := by decide +kernel
theorem dX11_on_44 : decode cX11_on 44 = .ok (.aload_n 0, 1) := by decide +kernel
theorem dX11_on_45 : decode cX11_on 45 = .ok (.getfield 10, 3) := by decide +kernel
theorem dX11_on_48 : decode cX11_on 48 = .ok (.iconst 1, 1) := by decide +kernel
theorem dX11_on_49 : decode cX11_on 49 = .ok (.bipush 7, 2) := by decide +kernel
theorem dX11_on_51 : decode cX11_on 51 = .ok (.invokevirtual 326, 3) := by decide +kernel
theorem dX11_on_54 : decode cX11_on 54 = .ok (.aload_n 0, 1) := by decide +kernel
theorem dX11_on_55 : decode cX11_on 55 = .ok (.getfield 10, 3) := by decide +kernel
theorem dX11_on_58 : decode cX11_on 58 = .ok (.bipush 7, 2) := by decide +kernel
theorem dX11_on_60 : decode cX11_on 60 = .ok (.bipush 9, 2) := by decide +kernel
theorem dX11_on_62 : decode cX11_on 62 = .ok (.invokevirtual 326, 3) := by decide +kernel
theorem dX11_on_65 : decode cX11_on 65 = .ok (.ldc2_w 329, 3) := by decide +kernel
theorem dX11_on_68 : decode cX11_on 68 = .ok (.lsub, 1) := by decide +kernel
theorem dX11_on_69 : decode cX11_on 69 = .ok (.invokevirtual 331, 3) := by decide +kernel
theorem dX11_on_72 : decode cX11_on 72 = .ok (.ifCond .eq 7, 3) := by decide +kernel
theorem dX11_on_75 : decode cX11_on 75 = .ok (.iconst 1, 1) := by decide +kernel
theorem dX11_on_76 : decode cX11_on 76 = .ok (.goto 4, 3) := by decide +kernel
theorem dX11_on_79 : decode cX11_on 79 = .ok (.iconst 0, 1) := by decide +kernel
theorem dX11_on_80 : decode cX11_on 80 = .ok (.istore_n 1, 1) := by decide +kernel
theorem dX11_on_81 : decode cX11_on 81 = .ok (.aload_n 0, 1) := by decide +kernel
theorem dX11_on_82 : decode cX11_on 82 = .ok (.getfield 10, 3) := by decide +kernel
theorem dX11_on_85 : decode cX11_on 85 = .ok (.iconst 0, 1) := by decide +kernel
theorem dX11_on_86 : decode cX11_on 86 = .ok (.putfield 117, 3) := by decide +kernel
theorem dX11_on_89 : decode cX11_on 89 = .ok (.iload_n 1, 1) := by decide +kernel
theorem dX11_on_90 : decode cX11_on 90 = .ok (.ireturn, 1) := by decide +kernel
theorem dX11_forget_0 : decode cX11_forget 0 = .ok (.aload_n 0, 1) := by decide +kernel
theorem dX11_forget_1 : decode cX11_forget 1 = .ok (.lconst 0, 1) := by decide +kernel
theorem dX11_forget_2 : decode cX11_forget 2 = .ok (.putfield 159, 3) := by decide +kernel
theorem dX11_forget_5 : decode cX11_forget 5 = .ok (.aload_n 0, 1) := by decide +kernel
theorem dX11_forget_6 : decode cX11_forget 6 = .ok (.ldc2_w 209, 3) := by decide +kernel
theorem dX11_forget_9 : decode cX11_forget 9 = .ok (.putfield 319, 3) := by decide +kernel
theorem dX11_forget_12 : decode cX11_forget 12 = .ok (.aload_n 0, 1) := by decide +kernel
theorem dX11_forget_13 : decode cX11_forget 13 = .ok (.getfield 101, 3) := by decide +kernel
theorem dX11_forget_16 : decode cX11_forget 16 = .ok (.ldc2_w 192, 3) := by decide +kernel
theorem dX11_forget_19 : decode cX11_forget 19 = .ok (.invokestatic 335, 3) := by decide +kernel
theorem dX11_forget_22 : decode cX11_forget 22 = .ok (.aload_n 0, 1) := by decide +kernel
theorem dX11_forget_23 : decode cX11_forget 23 = .ok (.getfield 105, 3) := by decide +kernel
theorem dX11_forget_26 : decode cX11_forget 26 = .ok (.ldc2_w 192, 3) := by decide +kernel
theorem dX11_forget_29 : decode cX11_forget 29 = .ok (.invokestatic 335, 3) := by decide +kernel
theorem dX11_forget_32 : decode cX11_forget 32 = .ok (.aload_n 0, 1) := by decide +kernel
theorem dX11_forget_33 : decode cX11_forget 33 = .ok (.getfield 87, 3) := by decide +kernel
theorem dX11_forget_36 : decode cX11_forget 36 = .ok (.iconst 0, 1) := by decide +kernel
theorem dX11_forget_37 : decode cX11_forget 37 = .ok (.putfield 267, 3) := by decide +kernel
theorem dX11_forget_40 : decode cX11_forget 40 = .ok (.aload_n 0, 1) := by decide +kernel
theorem dX11_forget_41 : decode cX11_forget 41 = .ok (.getfield 91, 3) := by decide +kernel
theorem dX11_forget_44 : decode cX11_forget 44 = .ok (.iconst 0, 1) := by decide +kernel
theorem dX11_forget_45 : decode cX11_forget 45 = .ok (.putfield 267, 3) := by decide +kernel
theorem dX11_forget_48 : decode cX11_forget 48 = .ok (.aload_n 0, 1) := by decide +kernel
theorem dX11_forget_49 : decode cX11_forget 49 = .ok (.getfield 53, 3) := by decide +kernel
theorem dX11_forget_52 : decode cX11_forget 52 = .ok (.invokevirtual 338, 3) := by decide +kernel
theorem dX11_forget_55 : decode cX11_forget 55 = .ok (.return_, 1) := by decide +kernel
theorem dX11_takeImage_0 : decode cX11_takeImage 0 = .ok (.lload_n 3, 1) := by decide +kernel
theorem dX11_takeImage_1 : decode cX11_takeImage 1 = .ok (.ldc2_w 329, 3) := by decide +kernel
theorem dX11_takeImage_4 : decode cX11_takeImage 4 = .ok (.lcmp, 1) := by decide +kernel
theorem dX11_takeImage_5 : decode cX11_takeImage 5 = .ok (.ifCond .gt 25, 3) := by decide +kernel
theorem dX11_takeImage_8 : decode cX11_takeImage 8 = .ok (.aload_n 0, 1) := by decide +kernel
theorem dX11_takeImage_9 : decode cX11_takeImage 9 = .ok (.getfield 28, 3) := by decide +kernel
theorem dX11_takeImage_12 : decode cX11_takeImage 12 = .ok (.lload_n 1, 1) := by decide +kernel
theorem dX11_takeImage_13 : decode cX11_takeImage 13 = .ok (.invokevirtual 178, 3) := by decide +kernel
theorem dX11_takeImage_16 : decode cX11_takeImage 16 = .ok (.ifCond .eq 14, 3) := by decide +kernel
theorem dX11_takeImage_19 : decode cX11_takeImage 19 = .ok (.aload_n 0, 1) := by decide +kernel
theorem dX11_takeImage_20 : decode cX11_takeImage 20 = .ok (.getfield 28, 3) := by decide +kernel
theorem dX11_takeImage_23 : decode cX11_takeImage 23 = .ok (.lload_n 1, 1) := by decide +kernel
theorem dX11_takeImage_24 : decode cX11_takeImage 24 = .ok (.invokevirtual 182, 3) := by decide +kernel
theorem dX11_takeImage_27 : decode cX11_takeImage 27 = .ok (.ifCond .ne 5, 3) := by decide +kernel
theorem dX11_takeImage_30 : decode cX11_takeImage 30 = .ok (.iconst 0, 1) := by decide +kernel
theorem dX11_takeImage_31 : decode cX11_takeImage 31 = .ok (.ireturn, 1) := by decide +kernel
theorem dX11_takeImage_32 : decode cX11_takeImage 32 = .ok (.aload_n 0, 1) := by decide +kernel
theorem dX11_takeImage_33 : decode cX11_takeImage 33 = .ok (.lload_n 1, 1) := by decide +kernel
theorem dX11_takeImage_34 : decode cX11_takeImage 34 = .ok (.putfield 159, 3) := by decide +kernel
theorem dX11_takeImage_37 : decode cX11_takeImage 37 = .ok (.aload_n 0, 1) := by decide +kernel
theorem dX11_takeImage_38 : decode cX11_takeImage 38 = .ok (.getfield 53, 3) := by decide +kernel
theorem dX11_takeImage_41 : decode cX11_takeImage 41 = .ok (.lload_n 3, 1) := by decide +kernel
theorem dX11_takeImage_42 : decode cX11_takeImage 42 = .ok (.l2i, 1) := by decide +kernel
theorem dX11_takeImage_43 : decode cX11_takeImage 43 = .ok (.putfield 156, 3) := by decide +kernel
theorem dX11_takeImage_46 : decode cX11_takeImage 46 = .ok (.iconst 1, 1) := by decide +kernel
theorem dX11_takeImage_47 : decode cX11_takeImage 47 = .ok (.ireturn, 1) := by decide +kernel
theorem dX11_areFew_0 : decode cX11_areFew 0 = .ok (.aload_n 0, 1) := by decide +kernel
theorem dX11_areFew_1 : decode cX11_areFew 1 = .ok (.getfield 28, 3) := by decide +kernel
theorem dX11_areFew_4 : decode cX11_areFew 4 = .ok (.getfield 146, 3) := by decide +kernel
theorem dX11_areFew_7 : decode cX11_areFew 7 = .ok (.iconst 2, 1) := by decide +kernel
theorem dX11_areFew_8 : decode cX11_areFew 8 = .ok (.if_icmp .lt 18, 3) := by decide +kernel
theorem dX11_areFew_11 : decode cX11_areFew 11 = .ok (.aload_n 0, 1) := by decide +kernel
theorem dX11_areFew_12 : decode cX11_areFew 12 = .ok (.getfield 28, 3) := by decide +kernel
theorem dX11_areFew_15 : decode cX11_areFew 15 = .ok (.getfield 146, 3) := by decide +kernel
theorem dX11_areFew_18 : decode cX11_areFew 18 = .ok (.iconst 5, 1) := by decide +kernel
theorem dX11_areFew_19 : decode cX11_areFew 19 = .ok (.if_icmp .gt 7, 3) := by decide +kernel
theorem dX11_areFew_22 : decode cX11_areFew 22 = .ok (.iconst 1, 1) := by decide +kernel
theorem dX11_areFew_23 : decode cX11_areFew 23 = .ok (.goto 4, 3) := by decide +kernel
theorem dX11_areFew_26 : decode cX11_areFew 26 = .ok (.iconst 0, 1) := by decide +kernel
theorem dX11_areFew_27 : decode cX11_areFew 27 = .ok (.ireturn, 1) := by decide +kernel
theorem dX11_isKind_0 : decode cX11_isKind 0 = .ok (.iload_n 0, 1) := by decide +kernel
theorem dX11_isKind_1 : decode cX11_isKind 1 = .ok (.ifCond .lt 13, 3) := by decide +kernel
theorem dX11_isKind_4 : decode cX11_isKind 4 = .ok (.iload_n 0, 1) := by decide +kernel
theorem dX11_isKind_5 : decode cX11_isKind 5 = .ok (.bipush 6, 2) := by decide +kernel
theorem dX11_isKind_7 : decode cX11_isKind 7 = .ok (.if_icmp .ge 7, 3) := by decide +kernel
theorem dX11_isKind_10 : decode cX11_isKind 10 = .ok (.iconst 1, 1) := by decide +kernel
theorem dX11_isKind_11 : decode cX11_isKind 11 = .ok (.goto 4, 3) := by decide +kernel
theorem dX11_isKind_14 : decode cX11_isKind 14 = .ok (.iconst 0, 1) := by decide +kernel
theorem dX11_isKind_15 : decode cX11_isKind 15 = .ok (.ireturn, 1) := by decide +kernel
theorem dX11_canBeExtra_0 : decode cX11_canBeExtra 0 = .ok (.iload_n 0, 1) := by decide +kernel
theorem dX11_canBeExtra_1 : decode cX11_canBeExtra 1 = .ok (.sipush (-1000), 3) := by decide +kernel
theorem dX11_canBeExtra_4 : decode cX11_canBeExtra 4 = .ok (.if_icmp .lt 14, 3) := by decide +kernel
theorem dX11_canBeExtra_7 : decode cX11_canBeExtra 7 = .ok (.iload_n 0, 1) := by decide +kernel
theorem dX11_canBeExtra_8 : decode cX11_canBeExtra 8 = .ok (.sipush 1000, 3) := by decide +kernel
theorem dX11_canBeExtra_11 : decode cX11_canBeExtra 11 = .ok (.if_icmp .gt 7, 3) := by decide +kernel
theorem dX11_canBeExtra_14 : decode cX11_canBeExtra 14 = .ok (.iconst 1, 1) := by decide +kernel
theorem dX11_canBeExtra_15 : decode cX11_canBeExtra 15 = .ok (.goto 4, 3) := by decide +kernel
theorem dX11_canBeExtra_18 : decode cX11_canBeExtra 18 = .ok (.iconst 0, 1) := by decide +kernel
theorem dX11_canBeExtra_19 : decode cX11_canBeExtra 19 = .ok (.ireturn, 1) := by decide +kernel
theorem dX11_bestNet_0 : decode cX11_bestNet 0 = .ok (.lconst 0, 1) := by decide +kernel
theorem dX11_bestNet_1 : decode cX11_bestNet 1 = .ok (.lstore_n 1, 1) := by decide +kernel
theorem dX11_bestNet_2 : decode cX11_bestNet 2 = .ok (.aload_n 0, 1) := by decide +kernel
theorem dX11_bestNet_3 : decode cX11_bestNet 3 = .ok (.getfield 53, 3) := by decide +kernel
theorem dX11_bestNet_6 : decode cX11_bestNet 6 = .ok (.lconst 0, 1) := by decide +kernel
theorem dX11_bestNet_7 : decode cX11_bestNet 7 = .ok (.invokevirtual 201, 3) := by decide +kernel
theorem dX11_bestNet_10 : decode cX11_bestNet 10 = .ok (.lstore_n 3, 1) := by decide +kernel
theorem dX11_bestNet_11 : decode cX11_bestNet 11 = .ok (.lconst 1, 1) := by decide +kernel
theorem dX11_bestNet_12 : decode cX11_bestNet 12 = .ok (.aload_n 0, 1) := by decide +kernel
theorem dX11_bestNet_13 : decode cX11_bestNet 13 = .ok (.getfield 28, 3) := by decide +kernel
theorem dX11_bestNet_16 : decode cX11_bestNet 16 = .ok (.getfield 149, 3) := by decide +kernel
theorem dX11_bestNet_19 : decode cX11_bestNet 19 = .ok (.lshl, 1) := by decide +kernel
theorem dX11_bestNet_20 : decode cX11_bestNet 20 = .ok (.lstore 5, 2) := by decide +kernel
theorem dX11_bestNet_22 : decode cX11_bestNet 22 = .ok (.lconst 1, 1) := by decide +kernel
theorem dX11_bestNet_23 : decode cX11_bestNet 23 = .ok (.lstore 7, 2) := by decide +kernel
theorem dX11_bestNet_25 : decode cX11_bestNet 25 = .ok (.lload 7, 2) := by decide +kernel
theorem dX11_bestNet_27 : decode cX11_bestNet 27 = .ok (.lload 5, 2) := by decide +kernel
theorem dX11_bestNet_29 : decode cX11_bestNet 29 = .ok (.lcmp, 1) := by decide +kernel
theorem dX11_bestNet_30 : decode cX11_bestNet 30 = .ok (.ifCond .ge 51, 3) := by decide +kernel
theorem dX11_bestNet_33 : decode cX11_bestNet 33 = .ok (.aload_n 0, 1) := by decide +kernel
theorem dX11_bestNet_34 : decode cX11_bestNet 34 = .ok (.getfield 28, 3) := by decide +kernel
theorem dX11_bestNet_37 : decode cX11_bestNet 37 = .ok (.lload 7, 2) := by decide +kernel
theorem dX11_bestNet_39 : decode cX11_bestNet 39 = .ok (.invokevirtual 182, 3) := by decide +kernel
theorem dX11_bestNet_42 : decode cX11_bestNet 42 = .ok (.ifCond .eq 30, 3) := by decide +kernel
theorem dX11_bestNet_45 : decode cX11_bestNet 45 = .ok (.aload_n 0, 1) := by decide +kernel
theorem dX11_bestNet_46 : decode cX11_bestNet 46 = .ok (.getfield 53, 3) := by decide +kernel
theorem dX11_bestNet_49 : decode cX11_bestNet 49 = .ok (.lload 7, 2) := by decide +kernel
theorem dX11_bestNet_51 : decode cX11_bestNet 51 = .ok (.invokevirtual 201, 3) := by decide +kernel
theorem dX11_bestNet_54 : decode cX11_bestNet 54 = .ok (.lload_n 3, 1) := by decide +kernel
theorem dX11_bestNet_55 : decode cX11_bestNet 55 = .ok (.lcmp, 1) := by decide +kernel
theorem dX11_bestNet_56 : decode cX11_bestNet 56 = .ok (.ifCond .le 16, 3) := by decide +kernel
theorem dX11_bestNet_59 : decode cX11_bestNet 59 = .ok (.lload 7, 2) := by decide +kernel
theorem dX11_bestNet_61 : decode cX11_bestNet 61 = .ok (.lstore_n 1, 1) := by decide +kernel
theorem dX11_bestNet_62 : decode cX11_bestNet 62 = .ok (.aload_n 0, 1) := by decide +kernel
theorem dX11_bestNet_63 : decode cX11_bestNet 63 = .ok (.getfield 53, 3) := by decide +kernel
theorem dX11_bestNet_66 : decode cX11_bestNet 66 = .ok (.lload 7, 2) := by decide +kernel
theorem dX11_bestNet_68 : decode cX11_bestNet 68 = .ok (.invokevirtual 201, 3) := by decide +kernel
theorem dX11_bestNet_71 : decode cX11_bestNet 71 = .ok (.lstore_n 3, 1) := by decide +kernel
theorem dX11_bestNet_72 : decode cX11_bestNet 72 = .ok (.lload 7, 2) := by decide +kernel
theorem dX11_bestNet_74 : decode cX11_bestNet 74 = .ok (.lconst 1, 1) := by decide +kernel
theorem dX11_bestNet_75 : decode cX11_bestNet 75 = .ok (.ladd, 1) := by decide +kernel
theorem dX11_bestNet_76 : decode cX11_bestNet 76 = .ok (.lstore 7, 2) := by decide +kernel
theorem dX11_bestNet_78 : decode cX11_bestNet 78 = .ok (.goto (-53), 3) := by decide +kernel
theorem dX11_bestNet_81 : decode cX11_bestNet 81 = .ok (.lload_n 1, 1) := by decide +kernel
theorem dX11_bestNet_82 : decode cX11_bestNet 82 = .ok (.lreturn, 1) := by decide +kernel
theorem dX11_keepShapes_0 : decode cX11_keepShapes 0 = .ok (.aload_n 0, 1) := by decide +kernel
theorem dX11_keepShapes_1 : decode cX11_keepShapes 1 = .ok (.getfield 94, 3) := by decide +kernel
theorem dX11_keepShapes_4 : decode cX11_keepShapes 4 = .ok (.iconst 0, 1) := by decide +kernel
theorem dX11_keepShapes_5 : decode cX11_keepShapes 5 = .ok (.invokestatic 108, 3) := by decide +kernel
theorem dX11_keepShapes_8 : decode cX11_keepShapes 8 = .ok (.iconst 0, 1) := by decide +kernel
theorem dX11_keepShapes_9 : decode cX11_keepShapes 9 = .ok (.istore_n 1, 1) := by decide +kernel
theorem dX11_keepShapes_10 : decode cX11_keepShapes 10 = .ok (.iconst 0, 1) := by decide +kernel
theorem dX11_keepShapes_11 : decode cX11_keepShapes 11 = .ok (.istore_n 2, 1) := by decide +kernel
theorem dX11_keepShapes_12 : decode cX11_keepShapes 12 = .ok (.iload_n 2, 1) := by decide +kernel
theorem dX11_keepShapes_13 : decode cX11_keepShapes 13 = .ok (.aload_n 0, 1) := by decide +kernel
theorem dX11_keepShapes_14 : decode cX11_keepShapes 14 = .ok (.getfield 87, 3) := by decide +kernel
theorem dX11_keepShapes_17 : decode cX11_keepShapes 17 = .ok (.getfield 267, 3) := by decide +kernel
theorem dX11_keepShapes_20 : decode cX11_keepShapes 20 = .ok (.if_icmp .ge 72, 3) := by decide +kernel
theorem dX11_keepShapes_23 : decode cX11_keepShapes 23 = .ok (.aload_n 0, 1) := by decide +kernel
theorem dX11_keepShapes_24 : decode cX11_keepShapes 24 = .ok (.getfield 87, 3) := by decide +kernel
theorem dX11_keepShapes_27 : decode cX11_keepShapes 27 = .ok (.getfield 279, 3) := by decide +kernel
theorem dX11_keepShapes_30 : decode cX11_keepShapes 30 = .ok (.iload_n 2, 1) := by decide +kernel
theorem dX11_keepShapes_31 : decode cX11_keepShapes 31 = .ok (.laload, 1) := by decide +kernel
theorem dX11_keepShapes_32 : decode cX11_keepShapes 32 = .ok (.lstore_n 3, 1) := by decide +kernel
theorem dX11_keepShapes_33 : decode cX11_keepShapes 33 = .ok (.lload_n 3, 1) := by decide +kernel
theorem dX11_keepShapes_34 : decode cX11_keepShapes 34 = .ok (.aload_n 0, 1) := by decide +kernel
theorem dX11_keepShapes_35 : decode cX11_keepShapes 35 = .ok (.getfield 94, 3) := by decide +kernel
theorem dX11_keepShapes_38 : decode cX11_keepShapes 38 = .ok (.arraylength, 1) := by decide +kernel
theorem dX11_keepShapes_39 : decode cX11_keepShapes 39 = .ok (.i2l, 1) := by decide +kernel
theorem dX11_keepShapes_40 : decode cX11_keepShapes 40 = .ok (.lcmp, 1) := by decide +kernel
theorem dX11_keepShapes_41 : decode cX11_keepShapes 41 = .ok (.ifCond .ge 45, 3) := by decide +kernel
theorem dX11_keepShapes_44 : decode cX11_keepShapes 44 = .ok (.aload_n 0, 1) := by decide +kernel
theorem dX11_keepShapes_45 : decode cX11_keepShapes 45 = .ok (.getfield 94, 3) := by decide +kernel
theorem dX11_keepShapes_48 : decode cX11_keepShapes 48 = .ok (.lload_n 3, 1) := by decide +kernel
theorem dX11_keepShapes_49 : decode cX11_keepShapes 49 = .ok (.l2i, 1) := by decide +kernel
theorem dX11_keepShapes_50 : decode cX11_keepShapes 50 = .ok (.iaload, 1) := by decide +kernel
theorem dX11_keepShapes_51 : decode cX11_keepShapes 51 = .ok (.ifCond .ne 35, 3) := by decide +kernel
theorem dX11_keepShapes_54 : decode cX11_keepShapes 54 = .ok (.aload_n 0, 1) := by decide +kernel
theorem dX11_keepShapes_55 : decode cX11_keepShapes 55 = .ok (.getfield 87, 3) := by decide +kernel
theorem dX11_keepShapes_58 : decode cX11_keepShapes 58 = .ok (.getfield 279, 3) := by decide +kernel
theorem dX11_keepShapes_61 : decode cX11_keepShapes 61 = .ok (.iload_n 1, 1) := by decide +kernel
theorem dX11_keepShapes_62 : decode cX11_keepShapes 62 = .ok (.lload_n 3, 1) := by decide +kernel
theorem dX11_keepShapes_63 : decode cX11_keepShapes 63 = .ok (.lastore, 1) := by decide +kernel
theorem dX11_keepShapes_64 : decode cX11_keepShapes 64 = .ok (.iinc 1 1, 3) := by decide +kernel
theorem dX11_keepShapes_67 : decode cX11_keepShapes 67 = .ok (.aload_n 0, 1) := by decide +kernel
theorem dX11_keepShapes_68 : decode cX11_keepShapes 68 = .ok (.getfield 78, 3) := by decide +kernel
theorem dX11_keepShapes_71 : decode cX11_keepShapes 71 = .ok (.lload_n 3, 1) := by decide +kernel
theorem dX11_keepShapes_72 : decode cX11_keepShapes 72 = .ok (.aload_n 0, 1) := by decide +kernel
theorem dX11_keepShapes_73 : decode cX11_keepShapes 73 = .ok (.getfield 28, 3) := by decide +kernel
theorem dX11_keepShapes_76 : decode cX11_keepShapes 76 = .ok (.getfield 146, 3) := by decide +kernel
theorem dX11_keepShapes_79 : decode cX11_keepShapes 79 = .ok (.aload_n 0, 1) := by decide +kernel
theorem dX11_keepShapes_80 : decode cX11_keepShapes 80 = .ok (.getfield 94, 3) := by decide +kernel
theorem dX11_keepShapes_83 : decode cX11_keepShapes 83 = .ok (.invokevirtual 341, 3) := by decide +kernel
theorem dX11_keepShapes_86 : decode cX11_keepShapes 86 = .ok (.iinc 2 1, 3) := by decide +kernel
theorem dX11_keepShapes_89 : decode cX11_keepShapes 89 = .ok (.goto (-77), 3) := by decide +kernel
theorem dX11_keepShapes_92 : decode cX11_keepShapes 92 = .ok (.aload_n 0, 1) := by decide +kernel
theorem dX11_keepShapes_93 : decode cX11_keepShapes 93 = .ok (.getfield 87, 3) := by decide +kernel
theorem dX11_keepShapes_96 : decode cX11_keepShapes 96 = .ok (.iload_n 1, 1) := by decide +kernel
theorem dX11_keepShapes_97 : decode cX11_keepShapes 97 = .ok (.putfield 267, 3) := by decide +kernel
theorem dX11_keepShapes_100 : decode cX11_keepShapes 100 = .ok (.return_, 1) := by decide +kernel
theorem dX11_netOfOrder_0 : decode cX11_netOfOrder 0 = .ok (.lconst 0, 1) := by decide +kernel
theorem dX11_netOfOrder_1 : decode cX11_netOfOrder 1 = .ok (.lstore_n 1, 1) := by decide +kernel
theorem dX11_netOfOrder_2 : decode cX11_netOfOrder 2 = .ok (.iconst 0, 1) := by decide +kernel
theorem dX11_netOfOrder_3 : decode cX11_netOfOrder 3 = .ok (.istore_n 3, 1) := by decide +kernel
theorem dX11_netOfOrder_4 : decode cX11_netOfOrder 4 = .ok (.iconst 0, 1) := by decide +kernel
theorem dX11_netOfOrder_5 : decode cX11_netOfOrder 5 = .ok (.istore 4, 2) := by decide +kernel
theorem dX11_netOfOrder_7 : decode cX11_netOfOrder 7 = .ok (.iload 4, 2) := by decide +kernel
theorem dX11_netOfOrder_9 : decode cX11_netOfOrder 9 = .ok (.aload_n 0, 1) := by decide +kernel
theorem dX11_netOfOrder_10 : decode cX11_netOfOrder 10 = .ok (.getfield 28, 3) := by decide +kernel
theorem dX11_netOfOrder_13 : decode cX11_netOfOrder 13 = .ok (.getfield 146, 3) := by decide +kernel
theorem dX11_netOfOrder_16 : decode cX11_netOfOrder 16 = .ok (.if_icmp .ge 104, 3) := by decide +kernel
theorem dX11_netOfOrder_19 : decode cX11_netOfOrder 19 = .ok (.iload 4, 2) := by decide +kernel
theorem dX11_netOfOrder_21 : decode cX11_netOfOrder 21 = .ok (.aload_n 0, 1) := by decide +kernel
theorem dX11_netOfOrder_22 : decode cX11_netOfOrder 22 = .ok (.getfield 78, 3) := by decide +kernel
theorem dX11_netOfOrder_25 : decode cX11_netOfOrder 25 = .ok (.getfield 345, 3) := by decide +kernel
theorem dX11_netOfOrder_28 : decode cX11_netOfOrder 28 = .ok (.arraylength, 1) := by decide +kernel
theorem dX11_netOfOrder_29 : decode cX11_netOfOrder 29 = .ok (.if_icmp .ge 91, 3) := by decide +kernel
theorem dX11_netOfOrder_32 : decode cX11_netOfOrder 32 = .ok (.aload_n 0, 1) := by decide +kernel
theorem dX11_netOfOrder_33 : decode cX11_netOfOrder 33 = .ok (.getfield 78, 3) := by decide +kernel
theorem dX11_netOfOrder_36 : decode cX11_netOfOrder 36 = .ok (.getfield 345, 3) := by decide +kernel
theorem dX11_netOfOrder_39 : decode cX11_netOfOrder 39 = .ok (.iload 4, 2) := by decide +kernel
theorem dX11_netOfOrder_41 : decode cX11_netOfOrder 41 = .ok (.iaload, 1) := by decide +kernel
theorem dX11_netOfOrder_42 : decode cX11_netOfOrder 42 = .ok (.istore 5, 2) := by decide +kernel
theorem dX11_netOfOrder_44 : decode cX11_netOfOrder 44 = .ok (.iconst 0, 1) := by decide +kernel
theorem dX11_netOfOrder_45 : decode cX11_netOfOrder 45 = .ok (.istore 6, 2) := by decide +kernel
theorem dX11_netOfOrder_47 : decode cX11_netOfOrder 47 = .ok (.iload 6, 2) := by decide +kernel
theorem dX11_netOfOrder_49 : decode cX11_netOfOrder 49 = .ok (.aload_n 0, 1) := by decide +kernel
theorem dX11_netOfOrder_50 : decode cX11_netOfOrder 50 = .ok (.getfield 28, 3) := by decide +kernel
theorem dX11_netOfOrder_53 : decode cX11_netOfOrder 53 = .ok (.getfield 146, 3) := by decide +kernel
theorem dX11_netOfOrder_56 : decode cX11_netOfOrder 56 = .ok (.if_icmp .ge 51, 3) := by decide +kernel
theorem dX11_netOfOrder_59 : decode cX11_netOfOrder 59 = .ok (.iload_n 3, 1) := by decide +kernel
theorem dX11_netOfOrder_60 : decode cX11_netOfOrder 60 = .ok (.iload 6, 2) := by decide +kernel
theorem dX11_netOfOrder_62 : decode cX11_netOfOrder 62 = .ok (.ishr, 1) := by decide +kernel
theorem dX11_netOfOrder_63 : decode cX11_netOfOrder 63 = .ok (.iconst 1, 1) := by decide +kernel
theorem dX11_netOfOrder_64 : decode cX11_netOfOrder 64 = .ok (.iand, 1) := by decide +kernel
theorem dX11_netOfOrder_65 : decode cX11_netOfOrder 65 = .ok (.ifCond .eq 36, 3) := by decide +kernel
theorem dX11_netOfOrder_68 : decode cX11_netOfOrder 68 = .ok (.iload 5, 2) := by decide +kernel
theorem dX11_netOfOrder_70 : decode cX11_netOfOrder 70 = .ok (.iload 6, 2) := by decide +kernel
theorem dX11_netOfOrder_72 : decode cX11_netOfOrder 72 = .ok (.invokestatic 348, 3) := by decide +kernel
theorem dX11_netOfOrder_75 : decode cX11_netOfOrder 75 = .ok (.istore 7, 2) := by decide +kernel
theorem dX11_netOfOrder_77 : decode cX11_netOfOrder 77 = .ok (.lload_n 1, 1) := by decide +kernel
theorem dX11_netOfOrder_78 : decode cX11_netOfOrder 78 = .ok (.aload_n 0, 1) := by decide +kernel
theorem dX11_netOfOrder_79 : decode cX11_netOfOrder 79 = .ok (.getfield 62, 3) := by decide +kernel
theorem dX11_netOfOrder_82 : decode cX11_netOfOrder 82 = .ok (.lload_n 1, 1) := by decide +kernel
theorem dX11_netOfOrder_83 : decode cX11_netOfOrder 83 = .ok (.iload 7, 2) := by decide +kernel
theorem dX11_netOfOrder_85 : decode cX11_netOfOrder 85 = .ok (.invokevirtual 309, 3) := by decide +kernel
theorem dX11_netOfOrder_88 : decode cX11_netOfOrder 88 = .ok (.ifCond .eq 10, 3) := by decide +kernel
theorem dX11_netOfOrder_91 : decode cX11_netOfOrder 91 = .ok (.lconst 1, 1) := by decide +kernel
theorem dX11_netOfOrder_92 : decode cX11_netOfOrder 92 = .ok (.iload 7, 2) := by decide +kernel
theorem dX11_netOfOrder_94 : decode cX11_netOfOrder 94 = .ok (.lshl, 1) := by decide +kernel
theorem dX11_netOfOrder_95 : decode cX11_netOfOrder 95 = .ok (.goto 4, 3) := by decide +kernel
theorem dX11_netOfOrder_98 : decode cX11_netOfOrder 98 = .ok (.lconst 0, 1) := by decide +kernel
theorem dX11_netOfOrder_99 : decode cX11_netOfOrder 99 = .ok (.lor, 1) := by decide +kernel
theorem dX11_netOfOrder_100 : decode cX11_netOfOrder 100 = .ok (.lstore_n 1, 1) := by decide +kernel
theorem dX11_netOfOrder_101 : decode cX11_netOfOrder 101 = .ok (.iinc 6 1, 3) := by decide +kernel
theorem dX11_netOfOrder_104 : decode cX11_netOfOrder 104 = .ok (.goto (-57), 3) := by decide +kernel
theorem dX11_netOfOrder_107 : decode cX11_netOfOrder 107 = .ok (.iload_n 3, 1) := by decide +kernel
theorem dX11_netOfOrder_108 : decode cX11_netOfOrder 108 = .ok (.iconst 1, 1) := by decide +kernel
theorem dX11_netOfOrder_109 : decode cX11_netOfOrder 109 = .ok (.iload 5, 2) := by decide +kernel
theorem dX11_netOfOrder_111 : decode cX11_netOfOrder 111 = .ok (.ishl, 1) := by decide +kernel
theorem dX11_netOfOrder_112 : decode cX11_netOfOrder 112 = .ok (.ior, 1) := by decide +kernel
theorem dX11_netOfOrder_113 : decode cX11_netOfOrder 113 = .ok (.istore_n 3, 1) := by decide +kernel
theorem dX11_netOfOrder_114 : decode cX11_netOfOrder 114 = .ok (.iinc 4 1, 3) := by decide +kernel
theorem dX11_netOfOrder_117 : decode cX11_netOfOrder 117 = .ok (.goto (-110), 3) := by decide +kernel
theorem dX11_netOfOrder_120 : decode cX11_netOfOrder 120 = .ok (.lload_n 1, 1) := by decide +kernel
theorem dX11_netOfOrder_121 : decode cX11_netOfOrder 121 = .ok (.lreturn, 1) := by decide +kernel
theorem dX11_giftOf_0 : decode cX11_giftOf 0 = .ok (.aload_n 0, 1) := by decide +kernel
theorem dX11_giftOf_1 : decode cX11_giftOf 1 = .ok (.getfield 159, 3) := by decide +kernel
theorem dX11_giftOf_4 : decode cX11_giftOf 4 = .ok (.lconst 1, 1) := by decide +kernel
theorem dX11_giftOf_5 : decode cX11_giftOf 5 = .ok (.iload_n 2, 1) := by decide +kernel
theorem dX11_giftOf_6 : decode cX11_giftOf 6 = .ok (.lshl, 1) := by decide +kernel
theorem dX11_giftOf_7 : decode cX11_giftOf 7 = .ok (.ldc2_w 192, 3) := by decide +kernel
theorem dX11_giftOf_10 : decode cX11_giftOf 10 = .ok (.lxor, 1) := by decide +kernel
theorem dX11_giftOf_11 : decode cX11_giftOf 11 = .ok (.land, 1) := by decide +kernel
theorem dX11_giftOf_12 : decode cX11_giftOf 12 = .ok (.lstore 4, 2) := by decide +kernel
theorem dX11_giftOf_14 : decode cX11_giftOf 14 = .ok (.aload_n 0, 1) := by decide +kernel
theorem dX11_giftOf_15 : decode cX11_giftOf 15 = .ok (.getfield 19, 3) := by decide +kernel
theorem dX11_giftOf_18 : decode cX11_giftOf 18 = .ok (.getfield 300, 3) := by decide +kernel
theorem dX11_giftOf_21 : decode cX11_giftOf 21 = .ok (.iload_n 2, 1) := by decide +kernel
theorem dX11_giftOf_22 : decode cX11_giftOf 22 = .ok (.iaload, 1) := by decide +kernel
theorem dX11_giftOf_23 : decode cX11_giftOf 23 = .ok (.iload_n 1, 1) := by decide +kernel
theorem dX11_giftOf_24 : decode cX11_giftOf 24 = .ok (.if_icmp .ne 15, 3) := by decide +kernel
theorem dX11_giftOf_27 : decode cX11_giftOf 27 = .ok (.aload_n 0, 1) := by decide +kernel
theorem dX11_giftOf_28 : decode cX11_giftOf 28 = .ok (.getfield 19, 3) := by decide +kernel
theorem dX11_giftOf_31 : decode cX11_giftOf 31 = .ok (.getfield 306, 3) := by decide +kernel
theorem dX11_giftOf_34 : decode cX11_giftOf 34 = .ok (.iload_n 2, 1) := by decide +kernel
theorem dX11_giftOf_35 : decode cX11_giftOf 35 = .ok (.iaload, 1) := by decide +kernel
theorem dX11_giftOf_36 : decode cX11_giftOf 36 = .ok (.goto 12, 3) := by decide +kernel
theorem dX11_giftOf_39 : decode cX11_giftOf 39 = .ok (.aload_n 0, 1) := by decide +kernel
theorem dX11_giftOf_40 : decode cX11_giftOf 40 = .ok (.getfield 19, 3) := by decide +kernel
theorem dX11_giftOf_43 : decode cX11_giftOf 43 = .ok (.getfield 300, 3) := by decide +kernel
theorem dX11_giftOf_46 : decode cX11_giftOf 46 = .ok (.iload_n 2, 1) := by decide +kernel
theorem dX11_giftOf_47 : decode cX11_giftOf 47 = .ok (.iaload, 1) := by decide +kernel
theorem dX11_giftOf_48 : decode cX11_giftOf 48 = .ok (.istore 6, 2) := by decide +kernel
theorem dX11_giftOf_50 : decode cX11_giftOf 50 = .ok (.lconst 0, 1) := by decide +kernel
theorem dX11_giftOf_51 : decode cX11_giftOf 51 = .ok (.aload_n 0, 1) := by decide +kernel
theorem dX11_giftOf_52 : decode cX11_giftOf 52 = .ok (.getfield 53, 3) := by decide +kernel
theorem dX11_giftOf_55 : decode cX11_giftOf 55 = .ok (.lload 4, 2) := by decide +kernel
theorem dX11_giftOf_57 : decode cX11_giftOf 57 = .ok (.iload_n 1, 1) := by decide +kernel
theorem dX11_giftOf_58 : decode cX11_giftOf 58 = .ok (.invokevirtual 205, 3) := by decide +kernel
theorem dX11_giftOf_61 : decode cX11_giftOf 61 = .ok (.aload_n 0, 1) := by decide +kernel
theorem dX11_giftOf_62 : decode cX11_giftOf 62 = .ok (.getfield 53, 3) := by decide +kernel
theorem dX11_giftOf_65 : decode cX11_giftOf 65 = .ok (.aload_n 0, 1) := by decide +kernel
theorem dX11_giftOf_66 : decode cX11_giftOf 66 = .ok (.getfield 159, 3) := by decide +kernel
theorem dX11_giftOf_69 : decode cX11_giftOf 69 = .ok (.iload_n 1, 1) := by decide +kernel
theorem dX11_giftOf_70 : decode cX11_giftOf 70 = .ok (.invokevirtual 205, 3) := by decide +kernel
theorem dX11_giftOf_73 : decode cX11_giftOf 73 = .ok (.lsub, 1) := by decide +kernel
theorem dX11_giftOf_74 : decode cX11_giftOf 74 = .ok (.invokestatic 351, 3) := by decide +kernel
theorem dX11_giftOf_77 : decode cX11_giftOf 77 = .ok (.lstore 7, 2) := by decide +kernel
theorem dX11_giftOf_79 : decode cX11_giftOf 79 = .ok (.lconst 0, 1) := by decide +kernel
theorem dX11_giftOf_80 : decode cX11_giftOf 80 = .ok (.aload_n 0, 1) := by decide +kernel
theorem dX11_giftOf_81 : decode cX11_giftOf 81 = .ok (.getfield 53, 3) := by decide +kernel
theorem dX11_giftOf_84 : decode cX11_giftOf 84 = .ok (.aload_n 0, 1) := by decide +kernel
theorem dX11_giftOf_85 : decode cX11_giftOf 85 = .ok (.getfield 159, 3) := by decide +kernel
theorem dX11_giftOf_88 : decode cX11_giftOf 88 = .ok (.iload 6, 2) := by decide +kernel
theorem dX11_giftOf_90 : decode cX11_giftOf 90 = .ok (.invokevirtual 205, 3) := by decide +kernel
theorem dX11_giftOf_93 : decode cX11_giftOf 93 = .ok (.aload_n 0, 1) := by decide +kernel
theorem dX11_giftOf_94 : decode cX11_giftOf 94 = .ok (.getfield 53, 3) := by decide +kernel
theorem dX11_giftOf_97 : decode cX11_giftOf 97 = .ok (.lload 4, 2) := by decide +kernel
theorem dX11_giftOf_99 : decode cX11_giftOf 99 = .ok (.iload 6, 2) := by decide +kernel
theorem dX11_giftOf_101 : decode cX11_giftOf 101 = .ok (.invokevirtual 205, 3) := by decide +kernel
theorem dX11_giftOf_104 : decode cX11_giftOf 104 = .ok (.lsub, 1) := by decide +kernel
theorem dX11_giftOf_105 : decode cX11_giftOf 105 = .ok (.invokestatic 351, 3) := by decide +kernel
theorem dX11_giftOf_108 : decode cX11_giftOf 108 = .ok (.lstore 9, 2) := by decide +kernel
theorem dX11_giftOf_110 : decode cX11_giftOf 110 = .ok (.lload 7, 2) := by decide +kernel
theorem dX11_giftOf_112 : decode cX11_giftOf 112 = .ok (.lload 9, 2) := by decide +kernel
theorem dX11_giftOf_114 : decode cX11_giftOf 114 = .ok (.invokestatic 357, 3) := by decide +kernel
theorem dX11_giftOf_117 : decode cX11_giftOf 117 = .ok (.lstore 11, 2) := by decide +kernel
theorem dX11_giftOf_119 : decode cX11_giftOf 119 = .ok (.iload_n 3, 1) := by decide +kernel
theorem dX11_giftOf_120 : decode cX11_giftOf 120 = .ok (.ifCond .eq 11, 3) := by decide +kernel
theorem dX11_giftOf_123 : decode cX11_giftOf 123 = .ok (.lload 7, 2) := by decide +kernel
theorem dX11_giftOf_125 : decode cX11_giftOf 125 = .ok (.lload 11, 2) := by decide +kernel
theorem dX11_giftOf_127 : decode cX11_giftOf 127 = .ok (.lsub, 1) := by decide +kernel
theorem dX11_giftOf_128 : decode cX11_giftOf 128 = .ok (.goto 5, 3) := by decide +kernel
theorem dX11_giftOf_131 : decode cX11_giftOf 131 = .ok (.lload 11, 2) := by decide +kernel
theorem dX11_giftOf_133 : decode cX11_giftOf 133 = .ok (.lreturn, 1) := by decide +kernel
theorem dX12_init_0 : decode cX12_init 0 = .ok (.aload_n 0, 1) := by decide +kernel
theorem dX12_init_1 : decode cX12_init 1 = .ok (.invokespecial 1, 3) := by decide +kernel
theorem dX12_init_4 : decode cX12_init 4 = .ok (.aload_n 0, 1) := by decide +kernel
theorem dX12_init_5 : decode cX12_init 5 = .ok (.sipush 800, 3) := by decide +kernel
theorem dX12_init_8 : decode cX12_init 8 = .ok (.newarray .int, 2) := by decide +kernel
theorem dX12_init_10 : decode cX12_init 10 = .ok (.putfield 7, 3) := by decide +kernel
theorem dX12_init_13 : decode cX12_init 13 = .ok (.aload_n 0, 1) := by decide +kernel
theorem dX12_init_14 : decode cX12_init 14 = .ok (.iconst (-1), 1) := by decide +kernel
theorem dX12_init_15 : decode cX12_init 15 = .ok (.putfield 13, 3) := by decide +kernel
theorem dX12_init_18 : decode cX12_init 18 = .ok (.aload_n 0, 1) := by decide +kernel
theorem dX12_init_19 : decode cX12_init 19 = .ok (.iconst 3, 1) := by decide +kernel
theorem dX12_init_20 : decode cX12_init 20 = .ok (.newarray .char, 2) := by decide +kernel
theorem dX12_init_22 : decode cX12_init 22 = .ok (.dup, 1) := by decide +kernel
theorem dX12_init_23 : decode cX12_init 23 = .ok (.iconst 0, 1) := by decide +kernel
theorem dX12_init_24 : decode cX12_init 24 = .ok (.bipush 119, 2) := by decide +kernel
theorem dX12_init_26 : decode cX12_init 26 = .ok (.castore, 1) := by decide +kernel
theorem dX12_init_27 : decode cX12_init 27 = .ok (.dup, 1) := by decide +kernel
theorem dX12_init_28 : decode cX12_init 28 = .ok (.iconst 1, 1) := by decide +kernel
theorem dX12_init_29 : decode cX12_init 29 = .ok (.bipush 104, 2) := by decide +kernel
theorem dX12_init_31 : decode cX12_init 31 = .ok (.castore, 1) := by decide +kernel
theorem dX12_init_32 : decode cX12_init 32 = .ok (.dup, 1) := by decide +kernel
theorem dX12_init_33 : decode cX12_init 33 = .ok (.iconst 2, 1) := by decide +kernel
theorem dX12_init_34 : decode cX12_init 34 = .ok (.bipush 111, 2) := by decide +kernel
theorem dX12_init_36 : decode cX12_init 36 = .ok (.castore, 1) := by decide +kernel
theorem dX12_init_37 : decode cX12_init 37 = .ok (.putfield 17, 3) := by decide +kernel
theorem dX12_init_40 : decode cX12_init 40 = .ok (.aload_n 0, 1) := by decide +kernel
theorem dX12_init_41 : decode cX12_init 41 = .ok (.iconst 2, 1) := by decide +kernel
theorem dX12_init_42 : decode cX12_init 42 = .ok (.newarray .char, 2) := by decide +kernel
theorem dX12_init_44 : decode cX12_init 44 = .ok (.dup, 1) := by decide +kernel
theorem dX12_init_45 : decode cX12_init 45 = .ok (.iconst 0, 1) := by decide +kernel
theorem dX12_init_46 : decode cX12_init 46 = .ok (.bipush 97, 2) := by decide +kernel
theorem dX12_init_48 : decode cX12_init 48 = .ok (.castore, 1) := by decide +kernel
theorem dX12_init_49 : decode cX12_init 49 = .ok (.dup, 1) := by decide +kernel
theorem dX12_init_50 : decode cX12_init 50 = .ok (.iconst 1, 1) := by decide +kernel
theorem dX12_init_51 : decode cX12_init 51 = .ok (.bipush 116, 2) := by decide +kernel
theorem dX12_init_53 : decode cX12_init 53 = .ok (.castore, 1) := by decide +kernel
theorem dX12_init_54 : decode cX12_init 54 = .ok (.putfield 21, 3) := by decide +kernel
theorem dX12_init_57 : decode cX12_init 57 = .ok (.aload_n 0, 1) := by decide +kernel
theorem dX12_init_58 : decode cX12_init 58 = .ok (.iconst 4, 1) := by decide +kernel
theorem dX12_init_59 : decode cX12_init 59 = .ok (.newarray .char, 2) := by decide +kernel
theorem dX12_init_61 : decode cX12_init 61 = .ok (.dup, 1) := by decide +kernel
theorem dX12_init_62 : decode cX12_init 62 = .ok (.iconst 0, 1) := by decide +kernel
theorem dX12_init_63 : decode cX12_init 63 = .ok (.bipush 99, 2) := by decide +kernel
theorem dX12_init_65 : decode cX12_init 65 = .ok (.castore, 1) := by decide +kernel
theorem dX12_init_66 : decode cX12_init 66 = .ok (.dup, 1) := by decide +kernel
theorem dX12_init_67 : decode cX12_init 67 = .ok (.iconst 1, 1) := by decide +kernel
theorem dX12_init_68 : decode cX12_init 68 = .ok (.bipush 111, 2) := by decide +kernel
theorem dX12_init_70 : decode cX12_init 70 = .ok (.castore, 1) := by decide +kernel
theorem dX12_init_71 : decode cX12_init 71 = .ok (.dup, 1) := by decide +kernel
theorem dX12_init_72 : decode cX12_init 72 = .ok (.iconst 2, 1) := by decide +kernel
theorem dX12_init_73 : decode cX12_init 73 = .ok (.bipush 115, 2) := by decide +kernel
theorem dX12_init_75 : decode cX12_init 75 = .ok (.castore, 1) := by decide +kernel
theorem dX12_init_76 : decode cX12_init 76 = .ok (.dup, 1) := by decide +kernel
theorem dX12_init_77 : decode cX12_init 77 = .ok (.iconst 3, 1) := by decide +kernel
theorem dX12_init_78 : decode cX12_init 78 = .ok (.bipush 116, 2) := by decide +kernel
theorem dX12_init_80 : decode cX12_init 80 = .ok (.castore, 1) := by decide +kernel
theorem dX12_init_81 : decode cX12_init 81 = .ok (.putfield 24, 3) := by decide +kernel
theorem dX12_init_84 : decode cX12_init 84 = .ok (.aload_n 0, 1) := by decide +kernel
theorem dX12_init_85 : decode cX12_init 85 = .ok (.iconst 4, 1) := by decide +kernel
theorem dX12_init_86 : decode cX12_init 86 = .ok (.newarray .char, 2) := by decide +kernel
theorem dX12_init_88 : decode cX12_init 88 = .ok (.dup, 1) := by decide +kernel
theorem dX12_init_89 : decode cX12_init 89 = .ok (.iconst 0, 1) := by decide +kernel
theorem dX12_init_90 : decode cX12_init 90 = .ok (.bipush 119, 2) := by decide +kernel
theorem dX12_init_92 : decode cX12_init 92 = .ok (.castore, 1) := by decide +kernel
theorem dX12_init_93 : decode cX12_init 93 = .ok (.dup, 1) := by decide +kernel
theorem dX12_init_94 : decode cX12_init 94 = .ok (.iconst 1, 1) := by decide +kernel
theorem dX12_init_95 : decode cX12_init 95 = .ok (.bipush 104, 2) := by decide +kernel
theorem dX12_init_97 : decode cX12_init 97 = .ok (.castore, 1) := by decide +kernel
theorem dX12_init_98 : decode cX12_init 98 = .ok (.dup, 1) := by decide +kernel
theorem dX12_init_99 : decode cX12_init 99 = .ok (.iconst 2, 1) := by decide +kernel
theorem dX12_init_100 : decode cX12_init 100 = .ok (.bipush 101, 2) := by decide +kernel
theorem dX12_init_102 : decode cX12_init 102 = .ok (.castore, 1) := by decide +kernel
theorem dX12_init_103 : decode cX12_init 103 = .ok (.dup, 1) := by decide +kernel
theorem dX12_init_104 : decode cX12_init 104 = .ok (.iconst 3, 1) := by decide +kernel
theorem dX12_init_105 : decode cX12_init 105 = .ok (.bipush 110, 2) := by decide +kernel
theorem dX12_init_107 : decode cX12_init 107 = .ok (.castore, 1) := by decide +kernel
theorem dX12_init_108 : decode cX12_init 108 = .ok (.putfield 27, 3) := by decide +kernel
theorem dX12_init_111 : decode cX12_init 111 = .ok (.aload_n 0, 1) := by decide +kernel
theorem dX12_init_112 : decode cX12_init 112 = .ok (.iconst 4, 1) := by decide +kernel
theorem dX12_init_113 : decode cX12_init 113 = .ok (.newarray .char, 2) := by decide +kernel
theorem dX12_init_115 : decode cX12_init 115 = .ok (.dup, 1) := by decide +kernel
theorem dX12_init_116 : decode cX12_init 116 = .ok (.iconst 0, 1) := by decide +kernel
theorem dX12_init_117 : decode cX12_init 117 = .ok (.bipush 110, 2) := by decide +kernel
theorem dX12_init_119 : decode cX12_init 119 = .ok (.castore, 1) := by decide +kernel
theorem dX12_init_120 : decode cX12_init 120 = .ok (.dup, 1) := by decide +kernel
theorem dX12_init_121 : decode cX12_init 121 = .ok (.iconst 1, 1) := by decide +kernel
theorem dX12_init_122 : decode cX12_init 122 = .ok (.bipush 101, 2) := by decide +kernel
theorem dX12_init_124 : decode cX12_init 124 = .ok (.castore, 1) := by decide +kernel
theorem dX12_init_125 : decode cX12_init 125 = .ok (.dup, 1) := by decide +kernel
theorem dX12_init_126 : decode cX12_init 126 = .ok (.iconst 2, 1) := by decide +kernel
theorem dX12_init_127 : decode cX12_init 127 = .ok (.bipush 119, 2) := by decide +kernel
theorem dX12_init_129 : decode cX12_init 129 = .ok (.castore, 1) := by decide +kernel
theorem dX12_init_130 : decode cX12_init 130 = .ok (.dup, 1) := by decide +kernel
theorem dX12_init_131 : decode cX12_init 131 = .ok (.iconst 3, 1) := by decide +kernel
theorem dX12_init_132 : decode cX12_init 132 = .ok (.bipush 115, 2) := by decide +kernel
theorem dX12_init_134 : decode cX12_init 134 = .ok (.castore, 1) := by decide +kernel
theorem dX12_init_135 : decode cX12_init 135 = .ok (.putfield 30, 3) := by decide +kernel
theorem dX12_init_138 : decode cX12_init 138 = .ok (.aload_n 0, 1) := by decide +kernel
theorem dX12_init_139 : decode cX12_init 139 = .ok (.iconst 3, 1) := by decide +kernel
theorem dX12_init_140 : decode cX12_init 140 = .ok (.newarray .char, 2) := by decide +kernel
theorem dX12_init_142 : decode cX12_init 142 = .ok (.dup, 1) := by decide +kernel
theorem dX12_init_143 : decode cX12_init 143 = .ok (.iconst 0, 1) := by decide +kernel
theorem dX12_init_144 : decode cX12_init 144 = .ok (.bipush 98, 2) := by decide +kernel
theorem dX12_init_146 : decode cX12_init 146 = .ok (.castore, 1) := by decide +kernel
theorem dX12_init_147 : decode cX12_init 147 = .ok (.dup, 1) := by decide +kernel
theorem dX12_init_148 : decode cX12_init 148 = .ok (.iconst 1, 1) := by decide +kernel
theorem dX12_init_149 : decode cX12_init 149 = .ok (.bipush 97, 2) := by decide +kernel
theorem dX12_init_151 : decode cX12_init 151 = .ok (.castore, 1) := by decide +kernel
theorem dX12_init_152 : decode cX12_init 152 = .ok (.dup, 1) := by decide +kernel
theorem dX12_init_153 : decode cX12_init 153 = .ok (.iconst 2, 1) := by decide +kernel
theorem dX12_init_154 : decode cX12_init 154 = .ok (.bipush 114, 2) := by decide +kernel
theorem dX12_init_156 : decode cX12_init 156 = .ok (.castore, 1) := by decide +kernel
theorem dX12_init_157 : decode cX12_init 157 = .ok (.putfield 33, 3) := by decide +kernel
theorem dX12_init_160 : decode cX12_init 160 = .ok (.aload_n 0, 1) := by decide +kernel
theorem dX12_init_161 : decode cX12_init 161 = .ok (.iconst 4, 1) := by decide +kernel
theorem dX12_init_162 : decode cX12_init 162 = .ok (.newarray .char, 2) := by decide +kernel
theorem dX12_init_164 : decode cX12_init 164 = .ok (.dup, 1) := by decide +kernel
theorem dX12_init_165 : decode cX12_init 165 = .ok (.iconst 0, 1) := by decide +kernel
theorem dX12_init_166 : decode cX12_init 166 = .ok (.bipush 109, 2) := by decide +kernel
theorem dX12_init_168 : decode cX12_init 168 = .ok (.castore, 1) := by decide +kernel
theorem dX12_init_169 : decode cX12_init 169 = .ok (.dup, 1) := by decide +kernel
theorem dX12_init_170 : decode cX12_init 170 = .ok (.iconst 1, 1) := by decide +kernel
theorem dX12_init_171 : decode cX12_init 171 = .ok (.bipush 111, 2) := by decide +kernel
theorem dX12_init_173 : decode cX12_init 173 = .ok (.castore, 1) := by decide +kernel
theorem dX12_init_174 : decode cX12_init 174 = .ok (.dup, 1) := by decide +kernel
theorem dX12_init_175 : decode cX12_init 175 = .ok (.iconst 2, 1) := by decide +kernel
theorem dX12_init_176 : decode cX12_init 176 = .ok (.bipush 115, 2) := by decide +kernel
theorem dX12_init_178 : decode cX12_init 178 = .ok (.castore, 1) := by decide +kernel
theorem dX12_init_179 : decode cX12_init 179 = .ok (.dup, 1) := by decide +kernel
theorem dX12_init_180 : decode cX12_init 180 = .ok (.iconst 3, 1) := by decide +kernel
theorem dX12_init_181 : decode cX12_init 181 = .ok (.bipush 116, 2) := by decide +kernel
theorem dX12_init_183 : decode cX12_init 183 = .ok (.castore, 1) := by decide +kernel
theorem dX12_init_184 : decode cX12_init 184 = .ok (.putfield 36, 3) := by decide +kernel
theorem dX12_init_187 : decode cX12_init 187 = .ok (.aload_n 0, 1) := by decide +kernel
theorem dX12_init_188 : decode cX12_init 188 = .ok (.iconst 2, 1) := by decide +kernel
theorem dX12_init_189 : decode cX12_init 189 = .ok (.newarray .char, 2) := by decide +kernel
theorem dX12_init_191 : decode cX12_init 191 = .ok (.dup, 1) := by decide +kernel
theorem dX12_init_192 : decode cX12_init 192 = .ok (.iconst 0, 1) := by decide +kernel
theorem dX12_init_193 : decode cX12_init 193 = .ok (.bipush 111, 2) := by decide +kernel
theorem dX12_init_195 : decode cX12_init 195 = .ok (.castore, 1) := by decide +kernel
theorem dX12_init_196 : decode cX12_init 196 = .ok (.dup, 1) := by decide +kernel
theorem dX12_init_197 : decode cX12_init 197 = .ok (.iconst 1, 1) := by decide +kernel
theorem dX12_init_198 : decode cX12_init 198 = .ok (.bipush 114, 2) := by decide +kernel
theorem dX12_init_200 : decode cX12_init 200 = .ok (.castore, 1) := by decide +kernel
theorem dX12_init_201 : decode cX12_init 201 = .ok (.putfield 39, 3) := by decide +kernel
theorem dX12_init_204 : decode cX12_init 204 = .ok (.aload_n 0, 1) := by decide +kernel
theorem dX12_init_205 : decode cX12_init 205 = .ok (.iconst 3, 1) := by decide +kernel
theorem dX12_init_206 : decode cX12_init 206 = .ok (.newarray .char, 2) := by decide +kernel
theorem dX12_init_208 : decode cX12_init 208 = .ok (.dup, 1) := by decide +kernel
theorem dX12_init_209 : decode cX12_init 209 = .ok (.iconst 0, 1) := by decide +kernel
theorem dX12_init_210 : decode cX12_init 210 = .ok (.bipush 97, 2) := by decide +kernel
theorem dX12_init_212 : decode cX12_init 212 = .ok (.castore, 1) := by decide +kernel
theorem dX12_init_213 : decode cX12_init 213 = .ok (.dup, 1) := by decide +kernel
theorem dX12_init_214 : decode cX12_init 214 = .ok (.iconst 1, 1) := by decide +kernel
theorem dX12_init_215 : decode cX12_init 215 = .ok (.bipush 110, 2) := by decide +kernel
theorem dX12_init_217 : decode cX12_init 217 = .ok (.castore, 1) := by decide +kernel
theorem dX12_init_218 : decode cX12_init 218 = .ok (.dup, 1) := by decide +kernel
theorem dX12_init_219 : decode cX12_init 219 = .ok (.iconst 2, 1) := by decide +kernel
theorem dX12_init_220 : decode cX12_init 220 = .ok (.bipush 100, 2) := by decide +kernel
theorem dX12_init_222 : decode cX12_init 222 = .ok (.castore, 1) := by decide +kernel
theorem dX12_init_223 : decode cX12_init 223 = .ok (.putfield 42, 3) := by decide +kernel
theorem dX12_init_226 : decode cX12_init 226 = .ok (.aload_n 0, 1) := by decide +kernel
theorem dX12_init_227 : decode cX12_init 227 = .ok (.iconst 3, 1) := by decide +kernel
theorem dX12_init_228 : decode cX12_init 228 = .ok (.newarray .char, 2) := by decide +kernel
theorem dX12_init_230 : decode cX12_init 230 = .ok (.dup, 1) := by decide +kernel
theorem dX12_init_231 : decode cX12_init 231 = .ok (.iconst 0, 1) := by decide +kernel
theorem dX12_init_232 : decode cX12_init 232 = .ok (.bipush 110, 2) := by decide +kernel
theorem dX12_init_234 : decode cX12_init 234 = .ok (.castore, 1) := by decide +kernel
theorem dX12_init_235 : decode cX12_init 235 = .ok (.dup, 1) := by decide +kernel
theorem dX12_init_236 : decode cX12_init 236 = .ok (.iconst 1, 1) := by decide +kernel
theorem dX12_init_237 : decode cX12_init 237 = .ok (.bipush 111, 2) := by decide +kernel
theorem dX12_init_239 : decode cX12_init 239 = .ok (.castore, 1) := by decide +kernel
theorem dX12_init_240 : decode cX12_init 240 = .ok (.dup, 1) := by decide +kernel
theorem dX12_init_241 : decode cX12_init 241 = .ok (.iconst 2, 1) := by decide +kernel
theorem dX12_init_242 : decode cX12_init 242 = .ok (.bipush 116, 2) := by decide +kernel
theorem dX12_init_244 : decode cX12_init 244 = .ok (.castore, 1) := by decide +kernel
theorem dX12_init_245 : decode cX12_init 245 = .ok (.putfield 45, 3) := by decide +kernel
theorem dX12_init_248 : decode cX12_init 248 = .ok (.aload_n 0, 1) := by decide +kernel
theorem dX12_init_249 : decode cX12_init 249 = .ok (.iconst 3, 1) := by decide +kernel
theorem dX12_init_250 : decode cX12_init 250 = .ok (.newarray .char, 2) := by decide +kernel
theorem dX12_init_252 : decode cX12_init 252 = .ok (.dup, 1) := by decide +kernel
theorem dX12_init_253 : decode cX12_init 253 = .ok (.iconst 0, 1) := by decide +kernel
theorem dX12_init_254 : decode cX12_init 254 = .ok (.bipush 97, 2) := by decide +kernel
theorem dX12_init_256 : decode cX12_init 256 = .ok (.castore, 1) := by decide +kernel
theorem dX12_init_257 : decode cX12_init 257 = .ok (.dup, 1) := by decide +kernel
theorem dX12_init_258 : decode cX12_init 258 = .ok (.iconst 1, 1) := by decide +kernel
theorem dX12_init_259 : decode cX12_init 259 = .ok (.bipush 108, 2) := by decide +kernel
theorem dX12_init_261 : decode cX12_init 261 = .ok (.castore, 1) := by decide +kernel
theorem dX12_init_262 : decode cX12_init 262 = .ok (.dup, 1) := by decide +kernel
theorem dX12_init_263 : decode cX12_init 263 = .ok (.iconst 2, 1) := by decide +kernel
theorem dX12_init_264 : decode cX12_init 264 = .ok (.bipush 108, 2) := by decide +kernel
theorem dX12_init_266 : decode cX12_init 266 = .ok (.castore, 1) := by decide +kernel
theorem dX12_init_267 : decode cX12_init 267 = .ok (.putfield 48, 3) := by decide +kernel
theorem dX12_init_270 : decode cX12_init 270 = .ok (.aload_n 0, 1) := by decide +kernel
theorem dX12_init_271 : decode cX12_init 271 = .ok (.iconst 2, 1) := by decide +kernel
theorem dX12_init_272 : decode cX12_init 272 = .ok (.newarray .char, 2) := by decide +kernel
theorem dX12_init_274 : decode cX12_init 274 = .ok (.dup, 1) := by decide +kernel
theorem dX12_init_275 : decode cX12_init 275 = .ok (.iconst 0, 1) := by decide +kernel
theorem dX12_init_276 : decode cX12_init 276 = .ok (.bipush 105, 2) := by decide +kernel
theorem dX12_init_278 : decode cX12_init 278 = .ok (.castore, 1) := by decide +kernel
theorem dX12_init_279 : decode cX12_init 279 = .ok (.dup, 1) := by decide +kernel
theorem dX12_init_280 : decode cX12_init 280 = .ok (.iconst 1, 1) := by decide +kernel
theorem dX12_init_281 : decode cX12_init 281 = .ok (.bipush 115, 2) := by decide +kernel
theorem dX12_init_283 : decode cX12_init 283 = .ok (.castore, 1) := by decide +kernel
theorem dX12_init_284 : decode cX12_init 284 = .ok (.putfield 51, 3) := by decide +kernel
theorem dX12_init_287 : decode cX12_init 287 = .ok (.aload_n 0, 1) := by decide +kernel
theorem dX12_init_288 : decode cX12_init 288 = .ok (.iconst 4, 1) := by decide +kernel
theorem dX12_init_289 : decode cX12_init 289 = .ok (.newarray .char, 2) := by decide +kernel
theorem dX12_init_291 : decode cX12_init 291 = .ok (.dup, 1) := by decide +kernel
theorem dX12_init_292 : decode cX12_init 292 = .ok (.iconst 0, 1) := by decide +kernel
theorem dX12_init_293 : decode cX12_init 293 = .ok (.bipush 119, 2) := by decide +kernel
theorem dX12_init_295 : decode cX12_init 295 = .ok (.castore, 1) := by decide +kernel
theorem dX12_init_296 : decode cX12_init 296 = .ok (.dup, 1) := by decide +kernel
theorem dX12_init_297 : decode cX12_init 297 = .ok (.iconst 1, 1) := by decide +kernel
theorem dX12_init_298 : decode cX12_init 298 = .ok (.bipush 97, 2) := by decide +kernel
theorem dX12_init_300 : decode cX12_init 300 = .ok (.castore, 1) := by decide +kernel
theorem dX12_init_301 : decode cX12_init 301 = .ok (.dup, 1) := by decide +kernel
theorem dX12_init_302 : decode cX12_init 302 = .ok (.iconst 2, 1) := by decide +kernel
theorem dX12_init_303 : decode cX12_init 303 = .ok (.bipush 121, 2) := by decide +kernel
theorem dX12_init_305 : decode cX12_init 305 = .ok (.castore, 1) := by decide +kernel
theorem dX12_init_306 : decode cX12_init 306 = .ok (.dup, 1) := by decide +kernel
theorem dX12_init_307 : decode cX12_init 307 = .ok (.iconst 3, 1) := by decide +kernel
theorem dX12_init_308 : decode cX12_init 308 = .ok (.bipush 115, 2) := by decide +kernel
theorem dX12_init_310 : decode cX12_init 310 = .ok (.castore, 1) := by decide +kernel
theorem dX12_init_311 : decode cX12_init 311 = .ok (.putfield 54, 3) := by decide +kernel
theorem dX12_init_314 : decode cX12_init 314 = .ok (.aload_n 0, 1) := by decide +kernel
theorem dX12_init_315 : decode cX12_init 315 = .ok (.iconst 5, 1) := by decide +kernel
theorem dX12_init_316 : decode cX12_init 316 = .ok (.newarray .char, 2) := by decide +kernel
theorem dX12_init_318 : decode cX12_init 318 = .ok (.dup, 1) := by decide +kernel
theorem dX12_init_319 : decode cX12_init 319 = .ok (.iconst 0, 1) := by decide +kernel
theorem dX12_init_320 : decode cX12_init 320 = .ok (.bipush 109, 2) := by decide +kernel
theorem dX12_init_322 : decode cX12_init 322 = .ok (.castore, 1) := by decide +kernel
theorem dX12_init_323 : decode cX12_init 323 = .ok (.dup, 1) := by decide +kernel
theorem dX12_init_324 : decode cX12_init 324 = .ok (.iconst 1, 1) := by decide +kernel
theorem dX12_init_325 : decode cX12_init 325 = .ok (.bipush 105, 2) := by decide +kernel
theorem dX12_init_327 : decode cX12_init 327 = .ok (.castore, 1) := by decide +kernel
theorem dX12_init_328 : decode cX12_init 328 = .ok (.dup, 1) := by decide +kernel
theorem dX12_init_329 : decode cX12_init 329 = .ok (.iconst 2, 1) := by decide +kernel
theorem dX12_init_330 : decode cX12_init 330 = .ok (.bipush 108, 2) := by decide +kernel
theorem dX12_init_332 : decode cX12_init 332 = .ok (.castore, 1) := by decide +kernel
theorem dX12_init_333 : decode cX12_init 333 = .ok (.dup, 1) := by decide +kernel
theorem dX12_init_334 : decode cX12_init 334 = .ok (.iconst 3, 1) := by decide +kernel
theorem dX12_init_335 : decode cX12_init 335 = .ok (.bipush 101, 2) := by decide +kernel
theorem dX12_init_337 : decode cX12_init 337 = .ok (.castore, 1) := by decide +kernel
theorem dX12_init_338 : decode cX12_init 338 = .ok (.dup, 1) := by decide +kernel
theorem dX12_init_339 : decode cX12_init 339 = .ok (.iconst 4, 1) := by decide +kernel
theorem dX12_init_340 : decode cX12_init 340 = .ok (.bipush 115, 2) := by decide +kernel
theorem dX12_init_342 : decode cX12_init 342 = .ok (.castore, 1) := by decide +kernel
theorem dX12_init_343 : decode cX12_init 343 = .ok (.putfield 57, 3) := by decide +kernel
theorem dX12_init_346 : decode cX12_init 346 = .ok (.aload_n 0, 1) := by decide +kernel
theorem dX12_init_347 : decode cX12_init 347 = .ok (.iconst 4, 1) := by decide +kernel
theorem dX12_init_348 : decode cX12_init 348 = .ok (.newarray .char, 2) := by decide +kernel
theorem dX12_init_350 : decode cX12_init 350 = .ok (.dup, 1) := by decide +kernel
theorem dX12_init_351 : decode cX12_init 351 = .ok (.iconst 0, 1) := by decide +kernel
theorem dX12_init_352 : decode cX12_init 352 = .ok (.bipush 109, 2) := by decide +kernel
theorem dX12_init_354 : decode cX12_init 354 = .ok (.castore, 1) := by decide +kernel
theorem dX12_init_355 : decode cX12_init 355 = .ok (.dup, 1) := by decide +kernel
theorem dX12_init_356 : decode cX12_init 356 = .ok (.iconst 1, 1) := by decide +kernel
theorem dX12_init_357 : decode cX12_init 357 = .ok (.bipush 105, 2) := by decide +kernel
theorem dX12_init_359 : decode cX12_init 359 = .ok (.castore, 1) := by decide +kernel
theorem dX12_init_360 : decode cX12_init 360 = .ok (.dup, 1) := by decide +kernel
theorem dX12_init_361 : decode cX12_init 361 = .ok (.iconst 2, 1) := by decide +kernel
theorem dX12_init_362 : decode cX12_init 362 = .ok (.bipush 110, 2) := by decide +kernel
theorem dX12_init_364 : decode cX12_init 364 = .ok (.castore, 1) := by decide +kernel
theorem dX12_init_365 : decode cX12_init 365 = .ok (.dup, 1) := by decide +kernel
theorem dX12_init_366 : decode cX12_init 366 = .ok (.iconst 3, 1) := by decide +kernel
theorem dX12_init_367 : decode cX12_init 367 = .ok (.bipush 101, 2) := by decide +kernel
theorem dX12_init_369 : decode cX12_init 369 = .ok (.castore, 1) := by decide +kernel
theorem dX12_init_370 : decode cX12_init 370 = .ok (.putfield 60, 3) := by decide +kernel
theorem dX12_init_373 : decode cX12_init 373 = .ok (.aload_n 0, 1) := by decide +kernel
theorem dX12_init_374 : decode cX12_init 374 = .ok (.bipush 6, 2) := by decide +kernel
theorem dX12_init_376 : decode cX12_init 376 = .ok (.newarray .char, 2) := by decide +kernel
theorem dX12_init_378 : decode cX12_init 378 = .ok (.dup, 1) := by decide +kernel
theorem dX12_init_379 : decode cX12_init 379 = .ok (.iconst 0, 1) := by decide +kernel
theorem dX12_init_380 : decode cX12_init 380 = .ok (.bipush 116, 2) := by decide +kernel
theorem dX12_init_382 : decode cX12_init 382 = .ok (.castore, 1) := by decide +kernel
theorem dX12_init_383 : decode cX12_init 383 = .ok (.dup, 1) := by decide +kernel
theorem dX12_init_384 : decode cX12_init 384 = .ok (.iconst 1, 1) := by decide +kernel
theorem dX12_init_385 : decode cX12_init 385 = .ok (.bipush 104, 2) := by decide +kernel
theorem dX12_init_387 : decode cX12_init 387 = .ok (.castore, 1) := by decide +kernel
theorem dX12_init_388 : decode cX12_init 388 = .ok (.dup, 1) := by decide +kernel
theorem dX12_init_389 : decode cX12_init 389 = .ok (.iconst 2, 1) := by decide +kernel
theorem dX12_init_390 : decode cX12_init 390 = .ok (.bipush 101, 2) := by decide +kernel
theorem dX12_init_392 : decode cX12_init 392 = .ok (.castore, 1) := by decide +kernel
theorem dX12_init_393 : decode cX12_init 393 = .ok (.dup, 1) := by decide +kernel
theorem dX12_init_394 : decode cX12_init 394 = .ok (.iconst 3, 1) := by decide +kernel
theorem dX12_init_395 : decode cX12_init 395 = .ok (.bipush 105, 2) := by decide +kernel
theorem dX12_init_397 : decode cX12_init 397 = .ok (.castore, 1) := by decide +kernel
theorem dX12_init_398 : decode cX12_init 398 = .ok (.dup, 1) := by decide +kernel
theorem dX12_init_399 : decode cX12_init 399 = .ok (.iconst 4, 1) := by decide +kernel
theorem dX12_init_400 : decode cX12_init 400 = .ok (.bipush 114, 2) := by decide +kernel
theorem dX12_init_402 : decode cX12_init 402 = .ok (.castore, 1) := by decide +kernel
theorem dX12_init_403 : decode cX12_init 403 = .ok (.dup, 1) := by decide +kernel
theorem dX12_init_404 : decode cX12_init 404 = .ok (.iconst 5, 1) := by decide +kernel
theorem dX12_init_405 : decode cX12_init 405 = .ok (.bipush 115, 2) := by decide +kernel
theorem dX12_init_407 : decode cX12_init 407 = .ok (.castore, 1) := by decide +kernel
theorem dX12_init_408 : decode cX12_init 408 = .ok (.putfield 63, 3) := by decide +kernel
theorem dX12_init_411 : decode cX12_init 411 = .ok (.aload_n 0, 1) := by decide +kernel
theorem dX12_init_412 : decode cX12_init 412 = .ok (.iconst 4, 1) := by decide +kernel
theorem dX12_init_413 : decode cX12_init 413 = .ok (.newarray .char, 2) := by decide +kernel
theorem dX12_init_415 : decode cX12_init 415 = .ok (.dup, 1) := by decide +kernel
theorem dX12_init_416 : decode cX12_init 416 = .ok (.iconst 0, 1) := by decide +kernel
theorem dX12_init_417 : decode cX12_init 417 = .ok (.bipush 116, 2) := by decide +kernel
theorem dX12_init_419 : decode cX12_init 419 = .ok (.castore, 1) := by decide +kernel
theorem dX12_init_420 : decode cX12_init 420 = .ok (.dup, 1) := by decide +kernel
theorem dX12_init_421 : decode cX12_init 421 = .ok (.iconst 1, 1) := by decide +kernel
theorem dX12_init_422 : decode cX12_init 422 = .ok (.bipush 105, 2) := by decide +kernel
theorem dX12_init_424 : decode cX12_init 424 = .ok (.castore, 1) := by decide +kernel
theorem dX12_init_425 : decode cX12_init 425 = .ok (.dup, 1) := by decide +kernel
theorem dX12_init_426 : decode cX12_init 426 = .ok (.iconst 2, 1) := by decide +kernel
theorem dX12_init_427 : decode cX12_init 427 = .ok (.bipush 101, 2) := by decide +kernel
theorem dX12_init_429 : decode cX12_init 429 = .ok (.castore, 1) := by decide +kernel
theorem dX12_init_430 : decode cX12_init 430 = .ok (.dup, 1) := by decide +kernel
theorem dX12_init_431 : decode cX12_init 431 = .ok (.iconst 3, 1) := by decide +kernel
theorem dX12_init_432 : decode cX12_init 432 = .ok (.bipush 115, 2) := by decide +kernel
theorem dX12_init_434 : decode cX12_init 434 = .ok (.castore, 1) := by decide +kernel
theorem dX12_init_435 : decode cX12_init 435 = .ok (.putfield 66, 3) := by decide +kernel
theorem dX12_init_438 : decode cX12_init 438 = .ok (.aload_n 0, 1) := by decide +kernel
theorem dX12_init_439 : decode cX12_init 439 = .ok (.iconst 3, 1) := by decide +kernel
theorem dX12_init_440 : decode cX12_init 440 = .ok (.newarray .char, 2) := by decide +kernel
theorem dX12_init_442 : decode cX12_init 442 = .ok (.dup, 1) := by decide +kernel
theorem dX12_init_443 : decode cX12_init 443 = .ok (.iconst 0, 1) := by decide +kernel
theorem dX12_init_444 : decode cX12_init 444 = .ok (.bipush 109, 2) := by decide +kernel
theorem dX12_init_446 : decode cX12_init 446 = .ok (.castore, 1) := by decide +kernel
theorem dX12_init_447 : decode cX12_init 447 = .ok (.dup, 1) := by decide +kernel
theorem dX12_init_448 : decode cX12_init 448 = .ok (.iconst 1, 1) := by decide +kernel
theorem dX12_init_449 : decode cX12_init 449 = .ok (.bipush 105, 2) := by decide +kernel
theorem dX12_init_451 : decode cX12_init 451 = .ok (.castore, 1) := by decide +kernel
theorem dX12_init_452 : decode cX12_init 452 = .ok (.dup, 1) := by decide +kernel
theorem dX12_init_453 : decode cX12_init 453 = .ok (.iconst 2, 1) := by decide +kernel
theorem dX12_init_454 : decode cX12_init 454 = .ok (.bipush 110, 2) := by decide +kernel
theorem dX12_init_456 : decode cX12_init 456 = .ok (.castore, 1) := by decide +kernel
theorem dX12_init_457 : decode cX12_init 457 = .ok (.putfield 69, 3) := by decide +kernel
theorem dX12_init_460 : decode cX12_init 460 = .ok (.aload_n 0, 1) := by decide +kernel
theorem dX12_init_461 : decode cX12_init 461 = .ok (.iconst 3, 1) := by decide +kernel
theorem dX12_init_462 : decode cX12_init 462 = .ok (.newarray .char, 2) := by decide +kernel
theorem dX12_init_464 : decode cX12_init 464 = .ok (.dup, 1) := by decide +kernel
theorem dX12_init_465 : decode cX12_init 465 = .ok (.iconst 0, 1) := by decide +kernel
theorem dX12_init_466 : decode cX12_init 466 = .ok (.bipush 109, 2) := by decide +kernel
theorem dX12_init_468 : decode cX12_init 468 = .ok (.castore, 1) := by decide +kernel
theorem dX12_init_469 : decode cX12_init 469 = .ok (.dup, 1) := by decide +kernel
theorem dX12_init_470 : decode cX12_init 470 = .ok (.iconst 1, 1) := by decide +kernel
theorem dX12_init_471 : decode cX12_init 471 = .ok (.bipush 97, 2) := by decide +kernel
theorem dX12_init_473 : decode cX12_init 473 = .ok (.castore, 1) := by decide +kernel
theorem dX12_init_474 : decode cX12_init 474 = .ok (.dup, 1) := by decide +kernel
theorem dX12_init_475 : decode cX12_init 475 = .ok (.iconst 2, 1) := by decide +kernel
theorem dX12_init_476 : decode cX12_init 476 = .ok (.bipush 120, 2) := by decide +kernel
theorem dX12_init_478 : decode cX12_init 478 = .ok (.castore, 1) := by decide +kernel
theorem dX12_init_479 : decode cX12_init 479 = .ok (.putfield 72, 3) := by decide +kernel
theorem dX12_init_482 : decode cX12_init 482 = .ok (.aload_n 0, 1) := by decide +kernel
theorem dX12_init_483 : decode cX12_init 483 = .ok (.iconst 2, 1) := by decide +kernel
theorem dX12_init_484 : decode cX12_init 484 = .ok (.newarray .int, 2) := by decide +kernel
theorem dX12_init_486 : decode cX12_init 486 = .ok (.putfield 75, 3) := by decide +kernel
theorem dX12_init_489 : decode cX12_init 489 = .ok (.aload_n 0, 1) := by decide +kernel
theorem dX12_init_490 : decode cX12_init 490 = .ok (.bipush 20, 2) := by decide +kernel
theorem dX12_init_492 : decode cX12_init 492 = .ok (.newarray .long, 2) := by decide +kernel
theorem dX12_init_494 : decode cX12_init 494 = .ok (.putfield 78, 3) := by decide +kernel
theorem dX12_init_497 : decode cX12_init 497 = .ok (.aload_n 0, 1) := by decide +kernel
theorem dX12_init_498 : decode cX12_init 498 = .ok (.bipush 20, 2) := by decide +kernel
theorem dX12_init_500 : decode cX12_init 500 = .ok (.newarray .int, 2) := by decide +kernel
theorem dX12_init_502 : decode cX12_init 502 = .ok (.putfield 82, 3) := by decide +kernel
theorem dX12_init_505 : decode cX12_init 505 = .ok (.aload_n 0, 1) := by decide +kernel
theorem dX12_init_506 : decode cX12_init 506 = .ok (.bipush 20, 2) := by decide +kernel
theorem dX12_init_508 : decode cX12_init 508 = .ok (.newarray .int, 2) := by decide +kernel
theorem dX12_init_510 : decode cX12_init 510 = .ok (.putfield 85, 3) := by decide +kernel
theorem dX12_init_513 : decode cX12_init 513 = .ok (.aload_n 0, 1) := by decide +kernel
theorem dX12_init_514 : decode cX12_init 514 = .ok (.iconst 2, 1) := by decide +kernel
theorem dX12_init_515 : decode cX12_init 515 = .ok (.newarray .int, 2) := by decide +kernel
theorem dX12_init_517 : decode cX12_init 517 = .ok (.putfield 88, 3) := by decide +kernel
theorem dX12_init_520 : decode cX12_init 520 = .ok (.aload_n 0, 1) := by decide +kernel
theorem dX12_init_521 : decode cX12_init 521 = .ok (.bipush 40, 2) := by decide +kernel
theorem dX12_init_523 : decode cX12_init 523 = .ok (.newarray .int, 2) := by decide +kernel
theorem dX12_init_525 : decode cX12_init 525 = .ok (.putfield 91, 3) := by decide +kernel
theorem dX12_init_528 : decode cX12_init 528 = .ok (.aload_n 0, 1) := by decide +kernel
theorem dX12_init_529 : decode cX12_init 529 = .ok (.bipush 40, 2) := by decide +kernel
theorem dX12_init_531 : decode cX12_init 531 = .ok (.newarray .int, 2) := by decide +kernel
theorem dX12_init_533 : decode cX12_init 533 = .ok (.putfield 94, 3) := by decide +kernel
theorem dX12_init_536 : decode cX12_init 536 = .ok (.aload_n 0, 1) := by decide +kernel
theorem dX12_init_537 : decode cX12_init 537 = .ok (.bipush 40, 2) := by decide +kernel
theorem dX12_init_539 : decode cX12_init 539 = .ok (.newarray .int, 2) := by decide +kernel
theorem dX12_init_541 : decode cX12_init 541 = .ok (.putfield 97, 3) := by decide +kernel
theorem dX12_init_544 : decode cX12_init 544 = .ok (.aload_n 0, 1) := by decide +kernel
theorem dX12_init_545 : decode cX12_init 545 = .ok (.bipush 40, 2) := by decide +kernel
theorem dX12_init_547 : decode cX12_init 547 = .ok (.newarray .int, 2) := by decide +kernel
theorem dX12_init_549 : decode cX12_init 549 = .ok (.putfield 100, 3) := by decide +kernel
theorem dX12_init_552 : decode cX12_init 552 = .ok (.aload_n 0, 1) := by decide +kernel
theorem dX12_init_553 : decode cX12_init 553 = .ok (.iconst 2, 1) := by decide +kernel
theorem dX12_init_554 : decode cX12_init 554 = .ok (.newarray .int, 2) := by decide +kernel
theorem dX12_init_556 : decode cX12_init 556 = .ok (.putfield 103, 3) := by decide +kernel
theorem dX12_init_559 : decode cX12_init 559 = .ok (.aload_n 0, 1) := by decide +kernel
theorem dX12_init_560 : decode cX12_init 560 = .ok (.iconst 2, 1) := by decide +kernel
theorem dX12_init_561 : decode cX12_init 561 = .ok (.newarray .long, 2) := by decide +kernel
theorem dX12_init_563 : decode cX12_init 563 = .ok (.putfield 106, 3) := by decide +kernel
theorem dX12_init_566 : decode cX12_init 566 = .ok (.aload_n 0, 1) := by decide +kernel
theorem dX12_init_567 : decode cX12_init 567 = .ok (.sipush 1800, 3) := by decide +kernel
theorem dX12_init_570 : decode cX12_init 570 = .ok (.newarray .int, 2) := by decide +kernel
theorem dX12_init_572 : decode cX12_init 572 = .ok (.putfield 109, 3) := by decide +kernel
theorem dX12_init_575 : decode cX12_init 575 = .ok (.aload_n 0, 1) := by decide +kernel
theorem dX12_init_576 : decode cX12_init 576 = .ok (.sipush 900, 3) := by decide +kernel
theorem dX12_init_579 : decode cX12_init 579 = .ok (.newarray .int, 2) := by decide +kernel
theorem dX12_init_581 : decode cX12_init 581 = .ok (.putfield 112, 3) := by decide +kernel
theorem dX12_init_584 : decode cX12_init 584 = .ok (.aload_n 0, 1) := by decide +kernel
theorem dX12_init_585 : decode cX12_init 585 = .ok (.ldc2_w 115, 3) := by decide +kernel
theorem dX12_init_588 : decode cX12_init 588 = .ok (.putfield 117, 3) := by decide +kernel
theorem dX12_init_591 : decode cX12_init 591 = .ok (.aload_n 0, 1) := by decide +kernel
theorem dX12_init_592 : decode cX12_init 592 = .ok (.bipush 100, 2) := by decide +kernel
theorem dX12_init_594 : decode cX12_init 594 = .ok (.newarray .int, 2) := by decide +kernel
theorem dX12_init_596 : decode cX12_init 596 = .ok (.putfield 121, 3) := by decide +kernel
theorem dX12_init_599 : decode cX12_init 599 = .ok (.aload_n 0, 1) := by decide +kernel
theorem dX12_init_600 : decode cX12_init 600 = .ok (.bipush 10, 2) := by decide +kernel
theorem dX12_init_602 : decode cX12_init 602 = .ok (.newarray .int, 2) := by decide +kernel
theorem dX12_init_604 : decode cX12_init 604 = .ok (.putfield 124, 3) := by decide +kernel
theorem dX12_init_607 : decode cX12_init 607 = .ok (.aload_n 0, 1) := by decide +kernel
theorem dX12_init_608 : decode cX12_init 608 = .ok (.iconst (-1), 1) := by decide +kernel
theorem dX12_init_609 : decode cX12_init 609 = .ok (.putfield 127, 3) := by decide +kernel
theorem dX12_init_612 : decode cX12_init 612 = .ok (.aload_n 0, 1) := by decide +kernel
theorem dX12_init_613 : decode cX12_init 613 = .ok (.sipush 900, 3) := by decide +kernel
theorem dX12_init_616 : decode cX12_init 616 = .ok (.newarray .long, 2) := by decide +kernel
theorem dX12_init_618 : decode cX12_init 618 = .ok (.putfield 130, 3) := by decide +kernel
theorem dX12_init_621 : decode cX12_init 621 = .ok (.aload_n 0, 1) := by decide +kernel
theorem dX12_init_622 : decode cX12_init 622 = .ok (.sipush 5120, 3) := by decide +kernel
theorem dX12_init_625 : decode cX12_init 625 = .ok (.newarray .long, 2) := by decide +kernel
theorem dX12_init_627 : decode cX12_init 627 = .ok (.putfield 133, 3) := by decide +kernel
theorem dX12_init_630 : decode cX12_init 630 = .ok (.aload_n 0, 1) := by decide +kernel
theorem dX12_init_631 : decode cX12_init 631 = .ok (.bipush 10, 2) := by decide +kernel
theorem dX12_init_633 : decode cX12_init 633 = .ok (.newarray .long, 2) := by decide +kernel
theorem dX12_init_635 : decode cX12_init 635 = .ok (.putfield 136, 3) := by decide +kernel
theorem dX12_init_638 : decode cX12_init 638 = .ok (.aload_n 0, 1) := by decide +kernel
theorem dX12_init_639 : decode cX12_init 639 = .ok (.iconst (-1), 1) := by decide +kernel
theorem dX12_init_640 : decode cX12_init 640 = .ok (.putfield 139, 3) := by decide +kernel
theorem dX12_init_643 : decode cX12_init 643 = .ok (.aload_n 0, 1) := by decide +kernel
theorem dX12_init_644 : decode cX12_init 644 = .ok (.bipush 45, 2) := by decide +kernel
theorem dX12_init_646 : decode cX12_init 646 = .ok (.newarray .int, 2) := by decide +kernel
theorem dX12_init_648 : decode cX12_init 648 = .ok (.putfield 142, 3) := by decide +kernel
theorem dX12_init_651 : decode cX12_init 651 = .ok (.aload_n 0, 1) := by decide +kernel
theorem dX12_init_652 : decode cX12_init 652 = .ok (.sipush 201, 3) := by decide +kernel
theorem dX12_init_655 : decode cX12_init 655 = .ok (.newarray .long, 2) := by decide +kernel
theorem dX12_init_657 : decode cX12_init 657 = .ok (.putfield 145, 3) := by decide +kernel
theorem dX12_init_660 : decode cX12_init 660 = .ok (.aload_n 0, 1) := by decide +kernel
theorem dX12_init_661 : decode cX12_init 661 = .ok (.sipush 1024, 3) := by decide +kernel
theorem dX12_init_664 : decode cX12_init 664 = .ok (.newarray .long, 2) := by decide +kernel
theorem dX12_init_666 : decode cX12_init 666 = .ok (.putfield 148, 3) := by decide +kernel
theorem dX12_init_669 : decode cX12_init 669 = .ok (.aload_n 0, 1) := by decide +kernel
theorem dX12_init_670 : decode cX12_init 670 = .ok (.iconst 5, 1) := by decide +kernel
theorem dX12_init_671 : decode cX12_init 671 = .ok (.newarray .int, 2) := by decide +kernel
theorem dX12_init_673 : decode cX12_init 673 = .ok (.putfield 151, 3) := by decide +kernel
theorem dX12_init_676 : decode cX12_init 676 = .ok (.aload_n 0, 1) := by decide +kernel
theorem dX12_init_677 : decode cX12_init 677 = .ok (.bipush 120, 2) := by decide +kernel
theorem dX12_init_679 : decode cX12_init 679 = .ok (.newarray .long, 2) := by decide +kernel
theorem dX12_init_681 : decode cX12_init 681 = .ok (.putfield 154, 3) := by decide +kernel
theorem dX12_init_684 : decode cX12_init 684 = .ok (.aload_n 0, 1) := by decide +kernel
theorem dX12_init_685 : decode cX12_init 685 = .ok (.bipush 120, 2) := by decide +kernel
theorem dX12_init_687 : decode cX12_init 687 = .ok (.newarray .int, 2) := by decide +kernel
theorem dX12_init_689 : decode cX12_init 689 = .ok (.putfield 157, 3) := by decide +kernel
theorem dX12_init_692 : decode cX12_init 692 = .ok (.aload_n 0, 1) := by decide +kernel
theorem dX12_init_693 : decode cX12_init 693 = .ok (.bipush 10, 2) := by decide +kernel
theorem dX12_init_695 : decode cX12_init 695 = .ok (.newarray .int, 2) := by decide +kernel
theorem dX12_init_697 : decode cX12_init 697 = .ok (.putfield 160, 3) := by decide +kernel
theorem dX12_init_700 : decode cX12_init 700 = .ok (.return_, 1) := by decide +kernel
theorem dX12_isIn_0 : decode cX12_isIn 0 = .ok (.lload_n 0, 1) := by decide +kernel
theorem dX12_isIn_1 : decode cX12_isIn 1 = .ok (.lload_n 2, 1) := by decide +kernel
theorem dX12_isIn_2 : decode cX12_isIn 2 = .ok (.lcmp, 1) := by decide +kernel
theorem dX12_isIn_3 : decode cX12_isIn 3 = .ok (.ifCond .lt 14, 3) := by decide +kernel
theorem dX12_isIn_6 : decode cX12_isIn 6 = .ok (.lload_n 0, 1) := by decide +kernel
theorem dX12_isIn_7 : decode cX12_isIn 7 = .ok (.lload 4, 2) := by decide +kernel
theorem dX12_isIn_9 : decode cX12_isIn 9 = .ok (.lcmp, 1) := by decide +kernel
theorem dX12_isIn_10 : decode cX12_isIn 10 = .ok (.ifCond .gt 7, 3) := by decide +kernel
theorem dX12_isIn_13 : decode cX12_isIn 13 = .ok (.iconst 1, 1) := by decide +kernel
theorem dX12_isIn_14 : decode cX12_isIn 14 = .ok (.goto 4, 3) := by decide +kernel
theorem dX12_isIn_17 : decode cX12_isIn 17 = .ok (.iconst 0, 1) := by decide +kernel
theorem dX12_isIn_18 : decode cX12_isIn 18 = .ok (.ireturn, 1) := by decide +kernel
theorem dX12_feed_0 : decode cX12_feed 0 = .ok (.aload_n 0, 1) := by decide +kernel
theorem dX12_feed_1 : decode cX12_feed 1 = .ok (.getfield 163, 3) := by decide +kernel
theorem dX12_feed_4 : decode cX12_feed 4 = .ok (.bipush 20, 2) := by decide +kernel
theorem dX12_feed_6 : decode cX12_feed 6 = .ok (.iadd, 1) := by decide +kernel
theorem dX12_feed_7 : decode cX12_feed 7 = .ok (.sipush 800, 3) := by decide +kernel
theorem dX12_feed_10 : decode cX12_feed 10 = .ok (.if_icmp .le 5, 3) := by decide +kernel
theorem dX12_feed_13 : decode cX12_feed 13 = .ok (.iconst (-1), 1) := by decide +kernel
theorem dX12_feed_14 : decode cX12_feed 14 = .ok (.ireturn, 1) := by decide +kernel
theorem dX12_feed_15 : decode cX12_feed 15 = .ok (.iconst 0, 1) := by decide +kernel
theorem dX12_feed_16 : decode cX12_feed 16 = .ok (.istore 6, 2) := by decide +kernel
theorem dX12_feed_18 : decode cX12_feed 18 = .ok (.iload 6, 2) := by decide +kernel
theorem dX12_feed_20 : decode cX12_feed 20 = .ok (.bipush 20, 2) := by decide +kernel
theorem dX12_feed_22 : decode cX12_feed 22 = .ok (.if_icmp .ge 92, 3) := by decide +kernel
theorem dX12_feed_25 : decode cX12_feed 25 = .ok (.iload 6, 2) := by decide +kernel
theorem dX12_feed_27 : decode cX12_feed 27 = .ok (.iconst 4, 1) := by decide +kernel
theorem dX12_feed_28 : decode cX12_feed 28 = .ok (.if_icmp .ge 7, 3) := by decide +kernel
theorem dX12_feed_31 : decode cX12_feed 31 = .ok (.iload_n 1, 1) := by decide +kernel
theorem dX12_feed_32 : decode cX12_feed 32 = .ok (.goto 39, 3) := by decide +kernel
theorem dX12_feed_35 : decode cX12_feed 35 = .ok (.iload 6, 2) := by decide +kernel
theorem dX12_feed_37 : decode cX12_feed 37 = .ok (.bipush 8, 2) := by decide +kernel
theorem dX12_feed_39 : decode cX12_feed 39 = .ok (.if_icmp .ge 7, 3) := by decide +kernel
theorem dX12_feed_42 : decode cX12_feed 42 = .ok (.iload_n 2, 1) := by decide +kernel
theorem dX12_feed_43 : decode cX12_feed 43 = .ok (.goto 28, 3) := by decide +kernel
theorem dX12_feed_46 : decode cX12_feed 46 = .ok (.iload 6, 2) := by decide +kernel
theorem dX12_feed_48 : decode cX12_feed 48 = .ok (.bipush 12, 2) := by decide +kernel
theorem dX12_feed_50 : decode cX12_feed 50 = .ok (.if_icmp .ge 7, 3) := by decide +kernel
theorem dX12_feed_53 : decode cX12_feed 53 = .ok (.iload_n 3, 1) := by decide +kernel
theorem dX12_feed_54 : decode cX12_feed 54 = .ok (.goto 17, 3) := by decide +kernel
theorem dX12_feed_57 : decode cX12_feed 57 = .ok (.iload 6, 2) := by decide +kernel
theorem dX12_feed_59 : decode cX12_feed 59 = .ok (.bipush 16, 2) := by decide +kernel
theorem dX12_feed_61 : decode cX12_feed 61 = .ok (.if_icmp .ge 8, 3) := by decide +kernel
theorem dX12_feed_64 : decode cX12_feed 64 = .ok (.iload 4, 2) := by decide +kernel
theorem dX12_feed_66 : decode cX12_feed 66 = .ok (.goto 5, 3) := by decide +kernel
theorem dX12_feed_69 : decode cX12_feed 69 = .ok (.iload 5, 2) := by decide +kernel
theorem dX12_feed_71 : decode cX12_feed 71 = .ok (.istore 7, 2) := by decide +kernel
theorem dX12_feed_73 : decode cX12_feed 73 = .ok (.aload_n 0, 1) := by decide +kernel
theorem dX12_feed_74 : decode cX12_feed 74 = .ok (.getfield 7, 3) := by decide +kernel
theorem dX12_feed_77 : decode cX12_feed 77 = .ok (.aload_n 0, 1) := by decide +kernel
theorem dX12_feed_78 : decode cX12_feed 78 = .ok (.getfield 163, 3) := by decide +kernel
theorem dX12_feed_81 : decode cX12_feed 81 = .ok (.iload 7, 2) := by decide +kernel
theorem dX12_feed_83 : decode cX12_feed 83 = .ok (.bipush 8, 2) := by decide +kernel
theorem dX12_feed_85 : decode cX12_feed 85 = .ok (.iconst 3, 1) := by decide +kernel
theorem dX12_feed_86 : decode cX12_feed 86 = .ok (.iload 6, 2) := by decide +kernel
theorem dX12_feed_88 : decode cX12_feed 88 = .ok (.iconst 4, 1) := by decide +kernel
theorem dX12_feed_89 : decode cX12_feed 89 = .ok (.irem, 1) := by decide +kernel
theorem dX12_feed_90 : decode cX12_feed 90 = .ok (.isub, 1) := by decide +kernel
theorem dX12_feed_91 : decode cX12_feed 91 = .ok (.imul, 1) := by decide +kernel
theorem dX12_feed_92 : decode cX12_feed 92 = .ok (.ishr, 1) := by decide +kernel
theorem dX12_feed_93 : decode cX12_feed 93 = .ok (.sipush 255, 3) := by decide +kernel
theorem dX12_feed_96 : decode cX12_feed 96 = .ok (.iand, 1) := by decide +kernel
theorem dX12_feed_97 : decode cX12_feed 97 = .ok (.iastore, 1) := by decide +kernel
theorem dX12_feed_98 : decode cX12_feed 98 = .ok (.aload_n 0, 1) := by decide +kernel
theorem dX12_feed_99 : decode cX12_feed 99 = .ok (.dup, 1) := by decide +kernel
theorem dX12_feed_100 : decode cX12_feed 100 = .ok (.getfield 163, 3) := by decide +kernel
theorem dX12_feed_103 : decode cX12_feed 103 = .ok (.iconst 1, 1) := by decide +kernel
theorem dX12_feed_104 : decode cX12_feed 104 = .ok (.iadd, 1) := by decide +kernel
theorem dX12_feed_105 : decode cX12_feed 105 = .ok (.putfield 163, 3) := by decide +kernel
theorem dX12_feed_108 : decode cX12_feed 108 = .ok (.iinc 6 1, 3) := by decide +kernel
theorem dX12_feed_111 : decode cX12_feed 111 = .ok (.goto (-93), 3) := by decide +kernel
theorem dX12_feed_114 : decode cX12_feed 114 = .ok (.aload_n 0, 1) := by decide +kernel
theorem dX12_feed_115 : decode cX12_feed 115 = .ok (.getfield 163, 3) := by decide +kernel
theorem dX12_feed_118 : decode cX12_feed 118 = .ok (.ireturn, 1) := by decide +kernel
theorem dX12_end_0 : decode cX12_end 0 = .ok (.iload_n 1, 1) := by decide +kernel
theorem dX12_end_1 : decode cX12_end 1 = .ok (.ifCond .lt 11, 3) := by decide +kernel
theorem dX12_end_4 : decode cX12_end 4 = .ok (.iload_n 1, 1) := by decide +kernel
theorem dX12_end_5 : decode cX12_end 5 = .ok (.aload_n 0, 1) := by decide +kernel
theorem dX12_end_6 : decode cX12_end 6 = .ok (.getfield 163, 3) := by decide +kernel
theorem dX12_end_9 : decode cX12_end 9 = .ok (.if_icmp .le 5, 3) := by decide +kernel
theorem dX12_end_12 : decode cX12_end 12 = .ok (.iconst 0, 1) := by decide +kernel
theorem dX12_end_13 : decode cX12_end 13 = .ok (.ireturn, 1) := by decide +kernel
theorem dX12_end_14 : decode cX12_end 14 = .ok (.aload_n 0, 1) := by decide +kernel
theorem dX12_end_15 : decode cX12_end 15 = .ok (.iload_n 1, 1) := by decide +kernel
theorem dX12_end_16 : decode cX12_end 16 = .ok (.putfield 163, 3) := by decide +kernel
theorem dX12_end_19 : decode cX12_end 19 = .ok (.iconst 1, 1) := by decide +kernel
theorem dX12_end_20 : decode cX12_end 20 = .ok (.ireturn, 1) := by decide +kernel
theorem dX12_fail_0 : decode cX12_fail 0 = .ok (.aload_n 0, 1) := by decide +kernel
theorem dX12_fail_1 : decode cX12_fail 1 = .ok (.getfield 166, 3) := by decide +kernel
theorem dX12_fail_4 : decode cX12_fail 4 = .ok (.ifCond .eq 4, 3) := by decide +kernel
theorem dX12_fail_7 : decode cX12_fail 7 = .ok (.return_, 1) := by decide +kernel
theorem dX12_fail_8 : decode cX12_fail 8 = .ok (.aload_n 0, 1) := by decide +kernel
theorem dX12_fail_9 : decode cX12_fail 9 = .ok (.iload_n 1, 1) := by decide +kernel
theorem dX12_fail_10 : decode cX12_fail 10 = .ok (.putfield 166, 3) := by decide +kernel
theorem dX12_fail_13 : decode cX12_fail 13 = .ok (.aload_n 0, 1) := by decide +kernel
theorem dX12_fail_14 : decode cX12_fail 14 = .ok (.iload_n 2, 1) := by decide +kernel
theorem dX12_fail_15 : decode cX12_fail 15 = .ok (.putfield 169, 3) := by decide +kernel
theorem dX12_fail_18 : decode cX12_fail 18 = .ok (.return_, 1) := by decide +kernel
theorem dX12_isLetter_0 : decode cX12_isLetter 0 = .ok (.iload_n 0, 1) := by decide +kernel
theorem dX12_isLetter_1 : decode cX12_isLetter 1 = .ok (.bipush 97, 2) := by decide +kernel
theorem dX12_isLetter_3 : decode cX12_isLetter 3 = .ok (.if_icmp .lt 13, 3) := by decide +kernel
theorem dX12_isLetter_6 : decode cX12_isLetter 6 = .ok (.iload_n 0, 1) := by decide +kernel
theorem dX12_isLetter_7 : decode cX12_isLetter 7 = .ok (.bipush 122, 2) := by decide +kernel
theorem dX12_isLetter_9 : decode cX12_isLetter 9 = .ok (.if_icmp .gt 7, 3) := by decide +kernel
theorem dX12_isLetter_12 : decode cX12_isLetter 12 = .ok (.iconst 1, 1) := by decide +kernel
theorem dX12_isLetter_13 : decode cX12_isLetter 13 = .ok (.goto 4, 3) := by decide +kernel
theorem dX12_isLetter_16 : decode cX12_isLetter 16 = .ok (.iconst 0, 1) := by decide +kernel
theorem dX12_isLetter_17 : decode cX12_isLetter 17 = .ok (.ireturn, 1) := by decide +kernel
theorem dX12_isDigit_0 : decode cX12_isDigit 0 = .ok (.iload_n 0, 1) := by decide +kernel
theorem dX12_isDigit_1 : decode cX12_isDigit 1 = .ok (.bipush 48, 2) := by decide +kernel
theorem dX12_isDigit_3 : decode cX12_isDigit 3 = .ok (.if_icmp .lt 13, 3) := by decide +kernel
theorem dX12_isDigit_6 : decode cX12_isDigit 6 = .ok (.iload_n 0, 1) := by decide +kernel
theorem dX12_isDigit_7 : decode cX12_isDigit 7 = .ok (.bipush 57, 2) := by decide +kernel
theorem dX12_isDigit_9 : decode cX12_isDigit 9 = .ok (.if_icmp .gt 7, 3) := by decide +kernel
theorem dX12_isDigit_12 : decode cX12_isDigit 12 = .ok (.iconst 1, 1) := by decide +kernel
theorem dX12_isDigit_13 : decode cX12_isDigit 13 = .ok (.goto 4, 3) := by decide +kernel
theorem dX12_isDigit_16 : decode cX12_isDigit 16 = .ok (.iconst 0, 1) := by decide +kernel
theorem dX12_isDigit_17 : decode cX12_isDigit 17 = .ok (.ireturn, 1) := by decide +kernel
theorem dX12_look_0 : decode cX12_look 0 = .ok (.aload_n 0, 1) := by decide +kernel
theorem dX12_look_1 : decode cX12_look 1 = .ok (.getfield 172, 3) := by decide +kernel
theorem dX12_look_4 : decode cX12_look 4 = .ok (.aload_n 0, 1) := by decide +kernel
theorem dX12_look_5 : decode cX12_look 5 = .ok (.getfield 175, 3) := by decide +kernel
theorem dX12_look_8 : decode cX12_look 8 = .ok (.if_icmp .ge 44, 3) := by decide +kernel
theorem dX12_look_11 : decode cX12_look 11 = .ok (.aload_n 0, 1) := by decide +kernel
theorem dX12_look_12 : decode cX12_look 12 = .ok (.getfield 7, 3) := by decide +kernel
theorem dX12_look_15 : decode cX12_look 15 = .ok (.aload_n 0, 1) := by decide +kernel
theorem dX12_look_16 : decode cX12_look 16 = .ok (.getfield 172, 3) := by decide +kernel
theorem dX12_look_19 : decode cX12_look 19 = .ok (.iaload, 1) := by decide +kernel
theorem dX12_look_20 : decode cX12_look 20 = .ok (.bipush 10, 2) := by decide +kernel
theorem dX12_look_22 : decode cX12_look 22 = .ok (.if_icmp .eq 17, 3) := by decide +kernel
theorem dX12_look_25 : decode cX12_look 25 = .ok (.aload_n 0, 1) := by decide +kernel
theorem dX12_look_26 : decode cX12_look 26 = .ok (.getfield 7, 3) := by decide +kernel
theorem dX12_look_29 : decode cX12_look 29 = .ok (.aload_n 0, 1) := by decide +kernel
theorem dX12_look_30 : decode cX12_look 30 = .ok (.getfield 172, 3) := by decide +kernel
theorem dX12_look_33 : decode cX12_look 33 = .ok (.iaload, 1) := by decide +kernel
theorem dX12_look_34 : decode cX12_look 34 = .ok (.bipush 32, 2) := by decide +kernel
theorem dX12_look_36 : decode cX12_look 36 = .ok (.if_icmp .ne 16, 3) := by decide +kernel
theorem dX12_look_39 : decode cX12_look 39 = .ok (.aload_n 0, 1) := by decide +kernel
theorem dX12_look_40 : decode cX12_look 40 = .ok (.dup, 1) := by decide +kernel
theorem dX12_look_41 : decode cX12_look 41 = .ok (.getfield 172, 3) := by decide +kernel
theorem dX12_look_44 : decode cX12_look 44 = .ok (.iconst 1, 1) := by decide +kernel
theorem dX12_look_45 : decode cX12_look 45 = .ok (.iadd, 1) := by decide +kernel
theorem dX12_look_46 : decode cX12_look 46 = .ok (.putfield 172, 3) := by decide +kernel
theorem dX12_look_49 : decode cX12_look 49 = .ok (.goto (-49), 3) := by decide +kernel
theorem dX12_look_52 : decode cX12_look 52 = .ok (.aload_n 0, 1) := by decide +kernel
theorem dX12_look_53 : decode cX12_look 53 = .ok (.getfield 172, 3) := by decide +kernel
theorem dX12_look_56 : decode cX12_look 56 = .ok (.aload_n 0, 1) := by decide +kernel
theorem dX12_look_57 : decode cX12_look 57 = .ok (.getfield 175, 3) := by decide +kernel
theorem dX12_look_60 : decode cX12_look 60 = .ok (.if_icmp .ge 15, 3) := by decide +kernel
theorem dX12_look_63 : decode cX12_look 63 = .ok (.aload_n 0, 1) := by decide +kernel
theorem dX12_look_64 : decode cX12_look 64 = .ok (.getfield 7, 3) := by decide +kernel
theorem dX12_look_67 : decode cX12_look 67 = .ok (.aload_n 0, 1) := by decide +kernel
theorem dX12_look_68 : decode cX12_look 68 = .ok (.getfield 172, 3) := by decide +kernel
theorem dX12_look_71 : decode cX12_look 71 = .ok (.iaload, 1) := by decide +kernel
theorem dX12_look_72 : decode cX12_look 72 = .ok (.goto 4, 3) := by decide +kernel
theorem dX12_look_75 : decode cX12_look 75 = .ok (.iconst (-1), 1) := by decide +kernel
theorem dX12_look_76 : decode cX12_look 76 = .ok (.ireturn, 1) := by decide +kernel
theorem dX12_isHere_0 : decode cX12_isHere 0 = .ok (.aload_n 0, 1) := by decide +kernel
theorem dX12_isHere_1 : decode cX12_isHere 1 = .ok (.getfield 166, 3) := by decide +kernel
theorem dX12_isHere_4 : decode cX12_isHere 4 = .ok (.ifCond .ne 24, 3) := by decide +kernel
theorem dX12_isHere_7 : decode cX12_isHere 7 = .ok (.aload_n 0, 1) := by decide +kernel
theorem dX12_isHere_8 : decode cX12_isHere 8 = .ok (.invokevirtual 178, 3) := by decide +kernel
theorem dX12_isHere_11 : decode cX12_isHere 11 = .ok (.invokestatic 182, 3) := by decide +kernel
theorem dX12_isHere_14 : decode cX12_isHere 14 = .ok (.ifCond .eq 14, 3) := by decide +kernel
theorem dX12_isHere_17 : decode cX12_isHere 17 = .ok (.aload_n 0, 1) := by decide +kernel
theorem dX12_isHere_18 : decode cX12_isHere 18 = .ok (.getfield 172, 3) := by decide +kernel
theorem dX12_isHere_21 : decode cX12_isHere 21 = .ok (.aload_n 0, 1) := by decide +kernel
theorem dX12_isHere_22 : decode cX12_isHere 22 = .ok (.getfield 186, 3) := by decide +kernel
theorem dX12_isHere_25 : decode cX12_isHere 25 = .ok (.if_icmp .ne 5, 3) := by decide +kernel
theorem dX12_isHere_28 : decode cX12_isHere 28 = .ok (.iconst 0, 1) := by decide +kernel
theorem dX12_isHere_29 : decode cX12_isHere 29 = .ok (.ireturn, 1) := by decide +kernel
theorem dX12_isHere_30 : decode cX12_isHere 30 = .ok (.aload_n 0, 1) := by decide +kernel
theorem dX12_isHere_31 : decode cX12_isHere 31 = .ok (.getfield 172, 3) := by decide +kernel
theorem dX12_isHere_34 : decode cX12_isHere 34 = .ok (.istore_n 2, 1) := by decide +kernel
theorem dX12_isHere_35 : decode cX12_isHere 35 = .ok (.iload_n 2, 1) := by decide +kernel
theorem dX12_isHere_36 : decode cX12_isHere 36 = .ok (.aload_n 0, 1) := by decide +kernel
theorem dX12_isHere_37 : decode cX12_isHere 37 = .ok (.getfield 175, 3) := by decide +kernel
theorem dX12_isHere_40 : decode cX12_isHere 40 = .ok (.if_icmp .ge 21, 3) := by decide +kernel
theorem dX12_isHere_43 : decode cX12_isHere 43 = .ok (.aload_n 0, 1) := by decide +kernel
theorem dX12_isHere_44 : decode cX12_isHere 44 = .ok (.getfield 7, 3) := by decide +kernel
theorem dX12_isHere_47 : decode cX12_isHere 47 = .ok (.iload_n 2, 1) := by decide +kernel
theorem dX12_isHere_48 : decode cX12_isHere 48 = .ok (.iaload, 1) := by decide +kernel
theorem dX12_isHere_49 : decode cX12_isHere 49 = .ok (.invokestatic 182, 3) := by decide +kernel
theorem dX12_isHere_52 : decode cX12_isHere 52 = .ok (.ifCond .eq 9, 3) := by decide +kernel
theorem dX12_isHere_55 : decode cX12_isHere 55 = .ok (.iinc 2 1, 3) := by decide +kernel
theorem dX12_isHere_58 : decode cX12_isHere 58 = .ok (.goto (-23), 3) := by decide +kernel
theorem dX12_isHere_61 : decode cX12_isHere 61 = .ok (.iload_n 2, 1) := by decide +kernel
theorem dX12_isHere_62 : decode cX12_isHere 62 = .ok (.aload_n 0, 1) := by decide +kernel
theorem dX12_isHere_63 : decode cX12_isHere 63 = .ok (.getfield 172, 3) := by decide +kernel
theorem dX12_isHere_66 : decode cX12_isHere 66 = .ok (.isub, 1) := by decide +kernel
theorem dX12_isHere_67 : decode cX12_isHere 67 = .ok (.aload_n 1, 1) := by decide +kernel
theorem dX12_isHere_68 : decode cX12_isHere 68 = .ok (.arraylength, 1) := by decide +kernel
theorem dX12_isHere_69 : decode cX12_isHere 69 = .ok (.if_icmp .eq 5, 3) := by decide +kernel
theorem dX12_isHere_72 : decode cX12_isHere 72 = .ok (.iconst 0, 1) := by decide +kernel
theorem dX12_isHere_73 : decode cX12_isHere 73 = .ok (.ireturn, 1) := by decide +kernel
theorem dX12_isHere_74 : decode cX12_isHere 74 = .ok (.iconst 0, 1) := by decide +kernel
theorem dX12_isHere_75 : decode cX12_isHere 75 = .ok (.istore_n 3, 1) := by decide +kernel
theorem dX12_isHere_76 : decode cX12_isHere 76 = .ok (.iload_n 3, 1) := by decide +kernel
theorem dX12_isHere_77 : decode cX12_isHere 77 = .ok (.aload_n 1, 1) := by decide +kernel
theorem dX12_isHere_78 : decode cX12_isHere 78 = .ok (.arraylength, 1) := by decide +kernel
theorem dX12_isHere_79 : decode cX12_isHere 79 = .ok (.if_icmp .ge 28, 3) := by decide +kernel
theorem dX12_isHere_82 : decode cX12_isHere 82 = .ok (.aload_n 0, 1) := by decide +kernel
theorem dX12_isHere_83 : decode cX12_isHere 83 = .ok (.getfield 7, 3) := by decide +kernel
theorem dX12_isHere_86 : decode cX12_isHere 86 = .ok (.aload_n 0, 1) := by decide +kernel
theorem dX12_isHere_87 : decode cX12_isHere 87 = .ok (.getfield 172, 3) := by decide +kernel
theorem dX12_isHere_90 : decode cX12_isHere 90 = .ok (.iload_n 3, 1) := by decide +kernel
theorem dX12_isHere_91 : decode cX12_isHere 91 = .ok (.iadd, 1) := by decide +kernel
theorem dX12_isHere_92 : decode cX12_isHere 92 = .ok (.iaload, 1) := by decide +kernel
theorem dX12_isHere_93 : decode cX12_isHere 93 = .ok (.aload_n 1, 1) := by decide +kernel
theorem dX12_isHere_94 : decode cX12_isHere 94 = .ok (.iload_n 3, 1) := by decide +kernel
theorem dX12_isHere_95 : decode cX12_isHere 95 = .ok (.caload, 1) := by decide +kernel
theorem dX12_isHere_96 : decode cX12_isHere 96 = .ok (.if_icmp .eq 5, 3) := by decide +kernel
theorem dX12_isHere_99 : decode cX12_isHere 99 = .ok (.iconst 0, 1) := by decide +kernel
theorem dX12_isHere_100 : decode cX12_isHere 100 = .ok (.ireturn, 1) := by decide +kernel
theorem dX12_isHere_101 : decode cX12_isHere 101 = .ok (.iinc 3 1, 3) := by decide +kernel
theorem dX12_isHere_104 : decode cX12_isHere 104 = .ok (.goto (-28), 3) := by decide +kernel
theorem dX12_isHere_107 : decode cX12_isHere 107 = .ok (.iconst 1, 1) := by decide +kernel
theorem dX12_isHere_108 : decode cX12_isHere 108 = .ok (.ireturn, 1) := by decide +kernel
theorem dX12_takes_0 : decode cX12_takes 0 = .ok (.aload_n 0, 1) := by decide +kernel
theorem dX12_takes_1 : decode cX12_takes 1 = .ok (.aload_n 1, 1) := by decide +kernel
theorem dX12_takes_2 : decode cX12_takes 2 = .ok (.invokevirtual 189, 3) := by decide +kernel
theorem dX12_takes_5 : decode cX12_takes 5 = .ok (.ifCond .ne 5, 3) := by decide +kernel
theorem dX12_takes_8 : decode cX12_takes 8 = .ok (.iconst 0, 1) := by decide +kernel
theorem dX12_takes_9 : decode cX12_takes 9 = .ok (.ireturn, 1) := by decide +kernel
theorem dX12_takes_10 : decode cX12_takes 10 = .ok (.aload_n 0, 1) := by decide +kernel
theorem dX12_takes_11 : decode cX12_takes 11 = .ok (.dup, 1) := by decide +kernel
theorem dX12_takes_12 : decode cX12_takes 12 = .ok (.getfield 172, 3) := by decide +kernel
theorem dX12_takes_15 : decode cX12_takes 15 = .ok (.aload_n 1, 1) := by decide +kernel
theorem dX12_takes_16 : decode cX12_takes 16 = .ok (.arraylength, 1) := by decide +kernel
theorem dX12_takes_17 : decode cX12_takes 17 = .ok (.iadd, 1) := by decide +kernel
theorem dX12_takes_18 : decode cX12_takes 18 = .ok (.putfield 172, 3) := by decide +kernel
theorem dX12_takes_21 : decode cX12_takes 21 = .ok (.aload_n 0, 1) := by decide +kernel
theorem dX12_takes_22 : decode cX12_takes 22 = .ok (.aload_n 0, 1) := by decide +kernel
theorem dX12_takes_23 : decode cX12_takes 23 = .ok (.getfield 172, 3) := by decide +kernel
theorem dX12_takes_26 : decode cX12_takes 26 = .ok (.putfield 186, 3) := by decide +kernel
theorem dX12_takes_29 : decode cX12_takes 29 = .ok (.iconst 1, 1) := by decide +kernel
theorem dX12_takes_30 : decode cX12_takes 30 = .ok (.ireturn, 1) := by decide +kernel
theorem dX12_asks_0 : decode cX12_asks 0 = .ok (.aload_n 0, 1) := by decide +kernel
theorem dX12_asks_1 : decode cX12_asks 1 = .ok (.getfield 166, 3) := by decide +kernel
theorem dX12_asks_4 : decode cX12_asks 4 = .ok (.ifCond .ne 20, 3) := by decide +kernel
theorem dX12_asks_7 : decode cX12_asks 7 = .ok (.aload_n 0, 1) := by decide +kernel
theorem dX12_asks_8 : decode cX12_asks 8 = .ok (.aload_n 1, 1) := by decide +kernel
theorem dX12_asks_9 : decode cX12_asks 9 = .ok (.invokevirtual 193, 3) := by decide +kernel
theorem dX12_asks_12 : decode cX12_asks 12 = .ok (.ifCond .ne 12, 3) := by decide +kernel
theorem dX12_asks_15 : decode cX12_asks 15 = .ok (.aload_n 0, 1) := by decide +kernel
theorem dX12_asks_16 : decode cX12_asks 16 = .ok (.iconst 1, 1) := by decide +kernel
theorem dX12_asks_17 : decode cX12_asks 17 = .ok (.aload_n 0, 1) := by decide +kernel
theorem dX12_asks_18 : decode cX12_asks 18 = .ok (.getfield 172, 3) := by decide +kernel
theorem dX12_asks_21 : decode cX12_asks 21 = .ok (.invokevirtual 196, 3) := by decide +kernel
theorem dX12_asks_24 : decode cX12_asks 24 = .ok (.return_, 1) := by decide +kernel
theorem dX12_takesSign_0 : decode cX12_takesSign 0 = .ok (.aload_n 0, 1) := by decide +kernel
theorem dX12_takesSign_1 : decode cX12_takesSign 1 = .ok (.getfield 166, 3) := by decide +kernel
theorem dX12_takesSign_4 : decode cX12_takesSign 4 = .ok (.ifCond .ne 11, 3) := by decide +kernel
theorem dX12_takesSign_7 : decode cX12_takesSign 7 = .ok (.aload_n 0, 1) := by decide +kernel
theorem dX12_takesSign_8 : decode cX12_takesSign 8 = .ok (.invokevirtual 178, 3) := by decide +kernel
theorem dX12_takesSign_11 : decode cX12_takesSign 11 = .ok (.iload_n 1, 1) := by decide +kernel
theorem dX12_takesSign_12 : decode cX12_takesSign 12 = .ok (.if_icmp .eq 5, 3) := by decide +kernel
theorem dX12_takesSign_15 : decode cX12_takesSign 15 = .ok (.iconst 0, 1) := by decide +kernel
theorem dX12_takesSign_16 : decode cX12_takesSign 16 = .ok (.ireturn, 1) := by decide +kernel
theorem dX12_takesSign_17 : decode cX12_takesSign 17 = .ok (.aload_n 0, 1) := by decide +kernel
theorem dX12_takesSign_18 : decode cX12_takesSign 18 = .ok (.dup, 1) := by decide +kernel
theorem dX12_takesSign_19 : decode cX12_takesSign 19 = .ok (.getfield 172, 3) := by decide +kernel
theorem dX12_takesSign_22 : decode cX12_takesSign 22 = .ok (.iconst 1, 1) := by decide +kernel
theorem dX12_takesSign_23 : decode cX12_takesSign 23 = .ok (.iadd, 1) := by decide +kernel
theorem dX12_takesSign_24 : decode cX12_takesSign 24 = .ok (.putfield 172, 3) := by decide +kernel
theorem dX12_takesSign_27 : decode cX12_takesSign 27 = .ok (.iconst 1, 1) := by decide +kernel
theorem dX12_takesSign_28 : decode cX12_takesSign 28 = .ok (.ireturn, 1) := by decide +kernel
theorem dX12_asksSign_0 : decode cX12_asksSign 0 = .ok (.aload_n 0, 1) := by decide +kernel
theorem dX12_asksSign_1 : decode cX12_asksSign 1 = .ok (.getfield 166, 3) := by decide +kernel
theorem dX12_asksSign_4 : decode cX12_asksSign 4 = .ok (.ifCond .ne 20, 3) := by decide +kernel
theorem dX12_asksSign_7 : decode cX12_asksSign 7 = .ok (.aload_n 0, 1) := by decide +kernel
theorem dX12_asksSign_8 : decode cX12_asksSign 8 = .ok (.iload_n 1, 1) := by decide +kernel
theorem dX12_asksSign_9 : decode cX12_asksSign 9 = .ok (.invokevirtual 200, 3) := by decide +kernel
theorem dX12_asksSign_12 : decode cX12_asksSign 12 = .ok (.ifCond .ne 12, 3) := by decide +kernel
theorem dX12_asksSign_15 : decode cX12_asksSign 15 = .ok (.aload_n 0, 1) := by decide +kernel
theorem dX12_asksSign_16 : decode cX12_asksSign 16 = .ok (.iconst 1, 1) := by decide +kernel
theorem dX12_asksSign_17 : decode cX12_asksSign 17 = .ok (.aload_n 0, 1) := by decide +kernel
theorem dX12_asksSign_18 : decode cX12_asksSign 18 = .ok (.getfield 172, 3) := by decide +kernel
theorem dX12_asksSign_21 : decode cX12_asksSign 21 = .ok (.invokevirtual 196, 3) := by decide +kernel
theorem dX12_asksSign_24 : decode cX12_asksSign 24 = .ok (.return_, 1) := by decide +kernel
theorem dX12_number_0 : decode cX12_number 0 = .ok (.aload_n 0, 1) := by decide +kernel
theorem dX12_number_1 : decode cX12_number 1 = .ok (.getfield 166, 3) := by decide +kernel
theorem dX12_number_4 : decode cX12_number 4 = .ok (.ifCond .eq 5, 3) := by decide +kernel
theorem dX12_number_7 : decode cX12_number 7 = .ok (.iconst 0, 1) := by decide +kernel
theorem dX12_number_8 : decode cX12_number 8 = .ok (.ireturn, 1) := by decide +kernel
theorem dX12_number_9 : decode cX12_number 9 = .ok (.aload_n 0, 1) := by decide +kernel
theorem dX12_number_10 : decode cX12_number 10 = .ok (.invokevirtual 178, 3) := by decide +kernel
theorem dX12_number_13 : decode cX12_number 13 = .ok (.invokestatic 203, 3) := by decide +kernel
theorem dX12_number_16 : decode cX12_number 16 = .ok (.ifCond .eq 14, 3) := by decide +kernel
theorem dX12_number_19 : decode cX12_number 19 = .ok (.aload_n 0, 1) := by decide +kernel
theorem dX12_number_20 : decode cX12_number 20 = .ok (.getfield 172, 3) := by decide +kernel
theorem dX12_number_23 : decode cX12_number 23 = .ok (.aload_n 0, 1) := by decide +kernel
theorem dX12_number_24 : decode cX12_number 24 = .ok (.getfield 186, 3) := by decide +kernel
theorem dX12_number_27 : decode cX12_number 27 = .ok (.if_icmp .ne 14, 3) := by decide +kernel
theorem dX12_number_30 : decode cX12_number 30 = .ok (.aload_n 0, 1) := by decide +kernel
theorem dX12_number_31 : decode cX12_number 31 = .ok (.iconst 1, 1) := by decide +kernel
theorem dX12_number_32 : decode cX12_number 32 = .ok (.aload_n 0, 1) := by decide +kernel
theorem dX12_number_33 : decode cX12_number 33 = .ok (.getfield 172, 3) := by decide +kernel
theorem dX12_number_36 : decode cX12_number 36 = .ok (.invokevirtual 196, 3) := by decide +kernel
theorem dX12_number_39 : decode cX12_number 39 = .ok (.iconst 0, 1) := by decide +kernel
theorem dX12_number_40 : decode cX12_number 40 = .ok (.ireturn, 1) := by decide +kernel
theorem dX12_number_41 : decode cX12_number 41 = .ok (.aload_n 0, 1) := by decide +kernel
theorem dX12_number_42 : decode cX12_number 42 = .ok (.getfield 172, 3) := by decide +kernel
theorem dX12_number_45 : decode cX12_number 45 = .ok (.istore_n 3, 1) := by decide +kernel
theorem dX12_number_46 : decode cX12_number 46 = .ok (.iconst 0, 1) := by decide +kernel
theorem dX12_number_47 : decode cX12_number 47 = .ok (.istore 4, 2) := by decide +kernel
theorem dX12_number_49 : decode cX12_number 49 = .ok (.aload_n 0, 1) := by decide +kernel
theorem dX12_number_50 : decode cX12_number 50 = .ok (.getfield 172, 3) := by decide +kernel
theorem dX12_number_53 : decode cX12_number 53 = .ok (.aload_n 0, 1) := by decide +kernel
theorem dX12_number_54 : decode cX12_number 54 = .ok (.getfield 175, 3) := by decide +kernel
theorem dX12_number_57 : decode cX12_number 57 = .ok (.if_icmp .ge 72, 3) := by decide +kernel
theorem dX12_number_60 : decode cX12_number 60 = .ok (.aload_n 0, 1) := by decide +kernel
theorem dX12_number_61 : decode cX12_number 61 = .ok (.getfield 7, 3) := by decide +kernel
theorem dX12_number_64 : decode cX12_number 64 = .ok (.aload_n 0, 1) := by decide +kernel
theorem dX12_number_65 : decode cX12_number 65 = .ok (.getfield 172, 3) := by decide +kernel
theorem dX12_number_68 : decode cX12_number 68 = .ok (.iaload, 1) := by decide +kernel
theorem dX12_number_69 : decode cX12_number 69 = .ok (.invokestatic 203, 3) := by decide +kernel
theorem dX12_number_72 : decode cX12_number 72 = .ok (.ifCond .eq 57, 3) := by decide +kernel
theorem dX12_number_75 : decode cX12_number 75 = .ok (.aload_n 0, 1) := by decide +kernel
theorem dX12_number_76 : decode cX12_number 76 = .ok (.getfield 172, 3) := by decide +kernel
theorem dX12_number_79 : decode cX12_number 79 = .ok (.iload_n 3, 1) := by decide +kernel
theorem dX12_number_80 : decode cX12_number 80 = .ok (.isub, 1) := by decide +kernel
theorem dX12_number_81 : decode cX12_number 81 = .ok (.iconst 4, 1) := by decide +kernel
theorem dX12_number_82 : decode cX12_number 82 = .ok (.if_icmp .ne 14, 3) := by decide +kernel
theorem dX12_number_85 : decode cX12_number 85 = .ok (.aload_n 0, 1) := by decide +kernel
theorem dX12_number_86 : decode cX12_number 86 = .ok (.iconst 1, 1) := by decide +kernel
theorem dX12_number_87 : decode cX12_number 87 = .ok (.aload_n 0, 1) := by decide +kernel
theorem dX12_number_88 : decode cX12_number 88 = .ok (.getfield 172, 3) := by decide +kernel
theorem dX12_number_91 : decode cX12_number 91 = .ok (.invokevirtual 196, 3) := by decide +kernel
theorem dX12_number_94 : decode cX12_number 94 = .ok (.iconst 0, 1) := by decide +kernel
theorem dX12_number_95 : decode cX12_number 95 = .ok (.ireturn, 1) := by decide +kernel
theorem dX12_number_96 : decode cX12_number 96 = .ok (.bipush 10, 2) := by decide +kernel
theorem dX12_number_98 : decode cX12_number 98 = .ok (.iload 4, 2) := by decide +kernel
theorem dX12_number_100 : decode cX12_number 100 = .ok (.imul, 1) := by decide +kernel
theorem dX12_number_101 : decode cX12_number 101 = .ok (.aload_n 0, 1) := by decide +kernel
theorem dX12_number_102 : decode cX12_number 102 = .ok (.getfield 7, 3) := by decide +kernel
theorem dX12_number_105 : decode cX12_number 105 = .ok (.aload_n 0, 1) := by decide +kernel
theorem dX12_number_106 : decode cX12_number 106 = .ok (.getfield 172, 3) := by decide +kernel
theorem dX12_number_109 : decode cX12_number 109 = .ok (.iaload, 1) := by decide +kernel
theorem dX12_number_110 : decode cX12_number 110 = .ok (.iadd, 1) := by decide +kernel
theorem dX12_number_111 : decode cX12_number 111 = .ok (.bipush 48, 2) := by decide +kernel
theorem dX12_number_113 : decode cX12_number 113 = .ok (.isub, 1) := by decide +kernel
theorem dX12_number_114 : decode cX12_number 114 = .ok (.istore 4, 2) := by decide +kernel
theorem dX12_number_116 : decode cX12_number 116 = .ok (.aload_n 0, 1) := by decide +kernel
theorem dX12_number_117 : decode cX12_number 117 = .ok (.dup, 1) := by decide +kernel
theorem dX12_number_118 : decode cX12_number 118 = .ok (.getfield 172, 3) := by decide +kernel
theorem dX12_number_121 : decode cX12_number 121 = .ok (.iconst 1, 1) := by decide +kernel
theorem dX12_number_122 : decode cX12_number 122 = .ok (.iadd, 1) := by decide +kernel
theorem dX12_number_123 : decode cX12_number 123 = .ok (.putfield 172, 3) := by decide +kernel
theorem dX12_number_126 : decode cX12_number 126 = .ok (.goto (-77), 3) := by decide +kernel
theorem dX12_number_129 : decode cX12_number 129 = .ok (.aload_n 0, 1) := by decide +kernel
theorem dX12_number_130 : decode cX12_number 130 = .ok (.aload_n 0, 1) := by decide +kernel
theorem dX12_number_131 : decode cX12_number 131 = .ok (.getfield 172, 3) := by decide +kernel
theorem dX12_number_134 : decode cX12_number 134 = .ok (.putfield 186, 3) := by decide +kernel
theorem dX12_number_137 : decode cX12_number 137 = .ok (.iload 4, 2) := by decide +kernel
theorem dX12_number_139 : decode cX12_number 139 = .ok (.i2l, 1) := by decide +kernel
theorem dX12_number_140 : decode cX12_number 140 = .ok (.iload_n 1, 1) := by decide +kernel
theorem dX12_number_141 : decode cX12_number 141 = .ok (.i2l, 1) := by decide +kernel
theorem dX12_number_142 : decode cX12_number 142 = .ok (.iload_n 2, 1) := by decide +kernel
theorem dX12_number_143 : decode cX12_number 143 = .ok (.i2l, 1) := by decide +kernel
theorem dX12_number_144 : decode cX12_number 144 = .ok (.invokestatic 206, 3) := by decide +kernel
theorem dX12_number_147 : decode cX12_number 147 = .ok (.ifCond .ne 9, 3) := by decide +kernel
theorem dX12_number_150 : decode cX12_number 150 = .ok (.aload_n 0, 1) := by decide +kernel
theorem dX12_number_151 : decode cX12_number 151 = .ok (.iconst 2, 1) := by decide +kernel
theorem dX12_number_152 : decode cX12_number 152 = .ok (.iload_n 3, 1) := by decide +kernel
theorem dX12_number_153 : decode cX12_number 153 = .ok (.invokevirtual 196, 3) := by decide +kernel
theorem dX12_number_156 : decode cX12_number 156 = .ok (.iload 4, 2) := by decide +kernel
theorem dX12_number_158 : decode cX12_number 158 = .ok (.ireturn, 1) := by decide +kernel
theorem dX12_isOwnHere_0 : decode cX12_isOwnHere 0 = .ok (.aload_n 0, 1) := by decide +kernel
theorem dX12_isOwnHere_1 : decode cX12_isOwnHere 1 = .ok (.aload_n 0, 1) := by decide +kernel
theorem dX12_isOwnHere_2 : decode cX12_isOwnHere 2 = .ok (.getfield 17, 3) := by decide +kernel
theorem dX12_isOwnHere_5 : decode cX12_isOwnHere 5 = .ok (.invokevirtual 189, 3) := by decide +kernel
theorem dX12_isOwnHere_8 : decode cX12_isOwnHere 8 = .ok (.ifCond .ne 102, 3) := by decide +kernel
theorem dX12_isOwnHere_11 : decode cX12_isOwnHere 11 = .ok (.aload_n 0, 1) := by decide +kernel
theorem dX12_isOwnHere_12 : decode cX12_isOwnHere 12 = .ok (.aload_n 0, 1) := by decide +kernel
theorem dX12_isOwnHere_13 : decode cX12_isOwnHere 13 = .ok (.getfield 21, 3) := by decide +kernel
theorem dX12_isOwnHere_16 : decode cX12_isOwnHere 16 = .ok (.invokevirtual 189, 3) := by decide +kernel
theorem dX12_isOwnHere_19 : decode cX12_isOwnHere 19 = .ok (.ifCond .ne 91, 3) := by decide +kernel
theorem dX12_isOwnHere_22 : decode cX12_isOwnHere 22 = .ok (.aload_n 0, 1) := by decide +kernel
theorem dX12_isOwnHere_23 : decode cX12_isOwnHere 23 = .ok (.aload_n 0, 1) := by decide +kernel
theorem dX12_isOwnHere_24 : decode cX12_isOwnHere 24 = .ok (.getfield 24, 3) := by decide +kernel
theorem dX12_isOwnHere_27 : decode cX12_isOwnHere 27 = .ok (.invokevirtual 189, 3) := by decide +kernel
theorem dX12_isOwnHere_30 : decode cX12_isOwnHere 30 = .ok (.ifCond .ne 80, 3) := by decide +kernel
theorem dX12_isOwnHere_33 : decode cX12_isOwnHere 33 = .ok (.aload_n 0, 1) := by decide +kernel
theorem dX12_isOwnHere_34 : decode cX12_isOwnHere 34 = .ok (.aload_n 0, 1) := by decide +kernel
theorem dX12_isOwnHere_35 : decode cX12_isOwnHere 35 = .ok (.getfield 27, 3) := by decide +kernel
theorem dX12_isOwnHere_38 : decode cX12_isOwnHere 38 = .ok (.invokevirtual 189, 3) := by decide +kernel
theorem dX12_isOwnHere_41 : decode cX12_isOwnHere 41 = .ok (.ifCond .ne 69, 3) := by decide +kernel
theorem dX12_isOwnHere_44 : decode cX12_isOwnHere 44 = .ok (.aload_n 0, 1) := by decide +kernel
theorem dX12_isOwnHere_45 : decode cX12_isOwnHere 45 = .ok (.aload_n 0, 1) := by decide +kernel
theorem dX12_isOwnHere_46 : decode cX12_isOwnHere 46 = .ok (.getfield 30, 3) := by decide +kernel
theorem dX12_isOwnHere_49 : decode cX12_isOwnHere 49 = .ok (.invokevirtual 189, 3) := by decide +kernel
theorem dX12_isOwnHere_52 : decode cX12_isOwnHere 52 = .ok (.ifCond .ne 58, 3) := by decide +kernel
theorem dX12_isOwnHere_55 : decode cX12_isOwnHere 55 = .ok (.aload_n 0, 1) := by decide +kernel
theorem dX12_isOwnHere_56 : decode cX12_isOwnHere 56 = .ok (.aload_n 0, 1) := by decide +kernel
theorem dX12_isOwnHere_57 : decode cX12_isOwnHere 57 = .ok (.getfield 33, 3) := by decide +kernel
theorem dX12_isOwnHere_60 : decode cX12_isOwnHere 60 = .ok (.invokevirtual 189, 3) := by decide +kernel
theorem dX12_isOwnHere_63 : decode cX12_isOwnHere 63 = .ok (.ifCond .ne 47, 3) := by decide +kernel
theorem dX12_isOwnHere_66 : decode cX12_isOwnHere 66 = .ok (.aload_n 0, 1) := by decide +kernel
theorem dX12_isOwnHere_67 : decode cX12_isOwnHere 67 = .ok (.aload_n 0, 1) := by decide +kernel
theorem dX12_isOwnHere_68 : decode cX12_isOwnHere 68 = .ok (.getfield 36, 3) := by decide +kernel
theorem dX12_isOwnHere_71 : decode cX12_isOwnHere 71 = .ok (.invokevirtual 189, 3) := by decide +kernel
theorem dX12_isOwnHere_74 : decode cX12_isOwnHere 74 = .ok (.ifCond .ne 36, 3) := by decide +kernel
theorem dX12_isOwnHere_77 : decode cX12_isOwnHere 77 = .ok (.aload_n 0, 1) := by decide +kernel
theorem dX12_isOwnHere_78 : decode cX12_isOwnHere 78 = .ok (.aload_n 0, 1) := by decide +kernel
theorem dX12_isOwnHere_79 : decode cX12_isOwnHere 79 = .ok (.getfield 39, 3) := by decide +kernel
theorem dX12_isOwnHere_82 : decode cX12_isOwnHere 82 = .ok (.invokevirtual 189, 3) := by decide +kernel
theorem dX12_isOwnHere_85 : decode cX12_isOwnHere 85 = .ok (.ifCond .ne 25, 3) := by decide +kernel
theorem dX12_isOwnHere_88 : decode cX12_isOwnHere 88 = .ok (.aload_n 0, 1) := by decide +kernel
theorem dX12_isOwnHere_89 : decode cX12_isOwnHere 89 = .ok (.aload_n 0, 1) := by decide +kernel
theorem dX12_isOwnHere_90 : decode cX12_isOwnHere 90 = .ok (.getfield 42, 3) := by decide +kernel
theorem dX12_isOwnHere_93 : decode cX12_isOwnHere 93 = .ok (.invokevirtual 189, 3) := by decide +kernel
theorem dX12_isOwnHere_96 : decode cX12_isOwnHere 96 = .ok (.ifCond .ne 14, 3) := by decide +kernel
theorem dX12_isOwnHere_99 : decode cX12_isOwnHere 99 = .ok (.aload_n 0, 1) := by decide +kernel
theorem dX12_isOwnHere_100 : decode cX12_isOwnHere 100 = .ok (.aload_n 0, 1) := by decide +kernel
theorem dX12_isOwnHere_101 : decode cX12_isOwnHere 101 = .ok (.getfield 45, 3) := by decide +kernel
theorem dX12_isOwnHere_104 : decode cX12_isOwnHere 104 = .ok (.invokevirtual 189, 3) := by decide +kernel
theorem dX12_isOwnHere_107 : decode cX12_isOwnHere 107 = .ok (.ifCond .eq 7, 3) := by decide +kernel
theorem dX12_isOwnHere_110 : decode cX12_isOwnHere 110 = .ok (.iconst 1, 1) := by decide +kernel
theorem dX12_isOwnHere_111 : decode cX12_isOwnHere 111 = .ok (.goto 4, 3) := by decide +kernel
theorem dX12_isOwnHere_114 : decode cX12_isOwnHere 114 = .ok (.iconst 0, 1) := by decide +kernel
theorem dX12_isOwnHere_115 : decode cX12_isOwnHere 115 = .ok (.istore_n 1, 1) := by decide +kernel
theorem dX12_isOwnHere_116 : decode cX12_isOwnHere 116 = .ok (.iload_n 1, 1) := by decide +kernel
theorem dX12_isOwnHere_117 : decode cX12_isOwnHere 117 = .ok (.ifCond .ne 102, 3) := by decide +kernel
theorem dX12_isOwnHere_120 : decode cX12_isOwnHere 120 = .ok (.aload_n 0, 1) := by decide +kernel
theorem dX12_isOwnHere_121 : decode cX12_isOwnHere 121 = .ok (.aload_n 0, 1) := by decide +kernel
theorem dX12_isOwnHere_122 : decode cX12_isOwnHere 122 = .ok (.getfield 48, 3) := by decide +kernel
theorem dX12_isOwnHere_125 : decode cX12_isOwnHere 125 = .ok (.invokevirtual 189, 3) := by decide +kernel
theorem dX12_isOwnHere_128 : decode cX12_isOwnHere 128 = .ok (.ifCond .ne 91, 3) := by decide +kernel
theorem dX12_isOwnHere_131 : decode cX12_isOwnHere 131 = .ok (.aload_n 0, 1) := by decide +kernel
theorem dX12_isOwnHere_132 : decode cX12_isOwnHere 132 = .ok (.aload_n 0, 1) := by decide +kernel
theorem dX12_isOwnHere_133 : decode cX12_isOwnHere 133 = .ok (.getfield 51, 3) := by decide +kernel
theorem dX12_isOwnHere_136 : decode cX12_isOwnHere 136 = .ok (.invokevirtual 189, 3) := by decide +kernel
theorem dX12_isOwnHere_139 : decode cX12_isOwnHere 139 = .ok (.ifCond .ne 80, 3) := by decide +kernel
theorem dX12_isOwnHere_142 : decode cX12_isOwnHere 142 = .ok (.aload_n 0, 1) := by decide +kernel
theorem dX12_isOwnHere_143 : decode cX12_isOwnHere 143 = .ok (.aload_n 0, 1) := by decide +kernel
theorem dX12_isOwnHere_144 : decode cX12_isOwnHere 144 = .ok (.getfield 54, 3) := by decide +kernel
theorem dX12_isOwnHere_147 : decode cX12_isOwnHere 147 = .ok (.invokevirtual 189, 3) := by decide +kernel
theorem dX12_isOwnHere_150 : decode cX12_isOwnHere 150 = .ok (.ifCond .ne 69, 3) := by decide +kernel
theorem dX12_isOwnHere_153 : decode cX12_isOwnHere 153 = .ok (.aload_n 0, 1) := by decide +kernel
theorem dX12_isOwnHere_154 : decode cX12_isOwnHere 154 = .ok (.aload_n 0, 1) := by decide +kernel
theorem dX12_isOwnHere_155 : decode cX12_isOwnHere 155 = .ok (.getfield 57, 3) := by decide +kernel
theorem dX12_isOwnHere_158 : decode cX12_isOwnHere 158 = .ok (.invokevirtual 189, 3) := by decide +kernel
theorem dX12_isOwnHere_161 : decode cX12_isOwnHere 161 = .ok (.ifCond .ne 58, 3) := by decide +kernel
theorem dX12_isOwnHere_164 : decode cX12_isOwnHere 164 = .ok (.aload_n 0, 1) := by decide +kernel
theorem dX12_isOwnHere_165 : decode cX12_isOwnHere 165 = .ok (.aload_n 0, 1) := by decide +kernel
theorem dX12_isOwnHere_166 : decode cX12_isOwnHere 166 = .ok (.getfield 60, 3) := by decide +kernel
theorem dX12_isOwnHere_169 : decode cX12_isOwnHere 169 = .ok (.invokevirtual 189, 3) := by decide +kernel
theorem dX12_isOwnHere_172 : decode cX12_isOwnHere 172 = .ok (.ifCond .ne 47, 3) := by decide +kernel
theorem dX12_isOwnHere_175 : decode cX12_isOwnHere 175 = .ok (.aload_n 0, 1) := by decide +kernel
theorem dX12_isOwnHere_176 : decode cX12_isOwnHere 176 = .ok (.aload_n 0, 1) := by decide +kernel
theorem dX12_isOwnHere_177 : decode cX12_isOwnHere 177 = .ok (.getfield 63, 3) := by decide +kernel
theorem dX12_isOwnHere_180 : decode cX12_isOwnHere 180 = .ok (.invokevirtual 189, 3) := by decide +kernel
theorem dX12_isOwnHere_183 : decode cX12_isOwnHere 183 = .ok (.ifCond .ne 36, 3) := by decide +kernel
theorem dX12_isOwnHere_186 : decode cX12_isOwnHere 186 = .ok (.aload_n 0, 1) := by decide +kernel
theorem dX12_isOwnHere_187 : decode cX12_isOwnHere 187 = .ok (.aload_n 0, 1) := by decide +kernel
theorem dX12_isOwnHere_188 : decode cX12_isOwnHere 188 = .ok (.getfield 66, 3) := by decide +kernel
theorem dX12_isOwnHere_191 : decode cX12_isOwnHere 191 = .ok (.invokevirtual 189, 3) := by decide +kernel
theorem dX12_isOwnHere_194 : decode cX12_isOwnHere 194 = .ok (.ifCond .ne 25, 3) := by decide +kernel
theorem dX12_isOwnHere_197 : decode cX12_isOwnHere 197 = .ok (.aload_n 0, 1) := by decide +kernel
theorem dX12_isOwnHere_198 : decode cX12_isOwnHere 198 = .ok (.aload_n 0, 1) := by decide +kernel
theorem dX12_isOwnHere_199 : decode cX12_isOwnHere 199 = .ok (.getfield 69, 3) := by decide +kernel
theorem dX12_isOwnHere_202 : decode cX12_isOwnHere 202 = .ok (.invokevirtual 189, 3) := by decide +kernel
theorem dX12_isOwnHere_205 : decode cX12_isOwnHere 205 = .ok (.ifCond .ne 14, 3) := by decide +kernel
theorem dX12_isOwnHere_208 : decode cX12_isOwnHere 208 = .ok (.aload_n 0, 1) := by decide +kernel
theorem dX12_isOwnHere_209 : decode cX12_isOwnHere 209 = .ok (.aload_n 0, 1) := by decide +kernel
theorem dX12_isOwnHere_210 : decode cX12_isOwnHere 210 = .ok (.getfield 72, 3) := by decide +kernel
theorem dX12_isOwnHere_213 : decode cX12_isOwnHere 213 = .ok (.invokevirtual 189, 3) := by decide +kernel
theorem dX12_isOwnHere_216 : decode cX12_isOwnHere 216 = .ok (.ifCond .eq 7, 3) := by decide +kernel
theorem dX12_isOwnHere_219 : decode cX12_isOwnHere 219 = .ok (.iconst 1, 1) := by decide +kernel
theorem dX12_isOwnHere_220 : decode cX12_isOwnHere 220 = .ok (.goto 4, 3) := by decide +kernel
theorem dX12_isOwnHere_223 : decode cX12_isOwnHere 223 = .ok (.iconst 0, 1) := by decide +kernel
theorem dX12_isOwnHere_224 : decode cX12_isOwnHere 224 = .ok (.ireturn, 1) := by decide +kernel
theorem dX12_name_0 : decode cX12_name 0 = .ok (.aload_n 0, 1) := by decide +kernel
theorem dX12_name_1 : decode cX12_name 1 = .ok (.getfield 166, 3) := by decide +kernel
theorem dX12_name_4 : decode cX12_name 4 = .ok (.ifCond .eq 5, 3) := by decide +kernel
theorem dX12_name_7 : decode cX12_name 7 = .ok (.lconst 0, 1) := by decide +kernel
theorem dX12_name_8 : decode cX12_name 8 = .ok (.lreturn, 1) := by decide +kernel
theorem dX12_name_9 : decode cX12_name 9 = .ok (.aload_n 0, 1) := by decide +kernel
theorem dX12_name_10 : decode cX12_name 10 = .ok (.invokevirtual 178, 3) := by decide +kernel
theorem dX12_name_13 : decode cX12_name 13 = .ok (.invokestatic 182, 3) := by decide +kernel
theorem dX12_name_16 : decode cX12_name 16 = .ok (.ifCond .eq 21, 3) := by decide +kernel
theorem dX12_name_19 : decode cX12_name 19 = .ok (.aload_n 0, 1) := by decide +kernel
theorem dX12_name_20 : decode cX12_name 20 = .ok (.getfield 172, 3) := by decide +kernel
theorem dX12_name_23 : decode cX12_name 23 = .ok (.aload_n 0, 1) := by decide +kernel
theorem dX12_name_24 : decode cX12_name 24 = .ok (.getfield 186, 3) := by decide +kernel
theorem dX12_name_27 : decode cX12_name 27 = .ok (.if_icmp .eq 10, 3) := by decide +kernel
theorem dX12_name_30 : decode cX12_name 30 = .ok (.aload_n 0, 1) := by decide +kernel
theorem dX12_name_31 : decode cX12_name 31 = .ok (.invokevirtual 210, 3) := by decide +kernel
theorem dX12_name_34 : decode cX12_name 34 = .ok (.ifCond .eq 14, 3) := by decide +kernel
theorem dX12_name_37 : decode cX12_name 37 = .ok (.aload_n 0, 1) := by decide +kernel
theorem dX12_name_38 : decode cX12_name 38 = .ok (.iconst 1, 1) := by decide +kernel
theorem dX12_name_39 : decode cX12_name 39 = .ok (.aload_n 0, 1) := by decide +kernel
theorem dX12_name_40 : decode cX12_name 40 = .ok (.getfield 172, 3) := by decide +kernel
theorem dX12_name_43 : decode cX12_name 43 = .ok (.invokevirtual 196, 3) := by decide +kernel
theorem dX12_name_46 : decode cX12_name 46 = .ok (.lconst 0, 1) := by decide +kernel
theorem dX12_name_47 : decode cX12_name 47 = .ok (.lreturn, 1) := by decide +kernel
theorem dX12_name_48 : decode cX12_name 48 = .ok (.aload_n 0, 1) := by decide +kernel
theorem dX12_name_49 : decode cX12_name 49 = .ok (.aload_n 0, 1) := by decide +kernel
theorem dX12_name_50 : decode cX12_name 50 = .ok (.getfield 172, 3) := by decide +kernel
theorem dX12_name_53 : decode cX12_name 53 = .ok (.putfield 214, 3) := by decide +kernel
theorem dX12_name_56 : decode cX12_name 56 = .ok (.lconst 0, 1) := by decide +kernel
theorem dX12_name_57 : decode cX12_name 57 = .ok (.lstore_n 1, 1) := by decide +kernel
theorem dX12_name_58 : decode cX12_name 58 = .ok (.aload_n 0, 1) := by decide +kernel
theorem dX12_name_59 : decode cX12_name 59 = .ok (.getfield 172, 3) := by decide +kernel
theorem dX12_name_62 : decode cX12_name 62 = .ok (.aload_n 0, 1) := by decide +kernel
theorem dX12_name_63 : decode cX12_name 63 = .ok (.getfield 175, 3) := by decide +kernel
theorem dX12_name_66 : decode cX12_name 66 = .ok (.if_icmp .ge 79, 3) := by decide +kernel
theorem dX12_name_69 : decode cX12_name 69 = .ok (.aload_n 0, 1) := by decide +kernel
theorem dX12_name_70 : decode cX12_name 70 = .ok (.getfield 7, 3) := by decide +kernel
theorem dX12_name_73 : decode cX12_name 73 = .ok (.aload_n 0, 1) := by decide +kernel
theorem dX12_name_74 : decode cX12_name 74 = .ok (.getfield 172, 3) := by decide +kernel
theorem dX12_name_77 : decode cX12_name 77 = .ok (.iaload, 1) := by decide +kernel
theorem dX12_name_78 : decode cX12_name 78 = .ok (.invokestatic 182, 3) := by decide +kernel
theorem dX12_name_81 : decode cX12_name 81 = .ok (.ifCond .eq 64, 3) := by decide +kernel
theorem dX12_name_84 : decode cX12_name 84 = .ok (.aload_n 0, 1) := by decide +kernel
theorem dX12_name_85 : decode cX12_name 85 = .ok (.getfield 172, 3) := by decide +kernel
theorem dX12_name_88 : decode cX12_name 88 = .ok (.aload_n 0, 1) := by decide +kernel
theorem dX12_name_89 : decode cX12_name 89 = .ok (.getfield 214, 3) := by decide +kernel
theorem dX12_name_92 : decode cX12_name 92 = .ok (.isub, 1) := by decide +kernel
theorem dX12_name_93 : decode cX12_name 93 = .ok (.bipush 6, 2) := by decide +kernel
theorem dX12_name_95 : decode cX12_name 95 = .ok (.if_icmp .ne 14, 3) := by decide +kernel
theorem dX12_name_98 : decode cX12_name 98 = .ok (.aload_n 0, 1) := by decide +kernel
theorem dX12_name_99 : decode cX12_name 99 = .ok (.iconst 1, 1) := by decide +kernel
theorem dX12_name_100 : decode cX12_name 100 = .ok (.aload_n 0, 1) := by decide +kernel
theorem dX12_name_101 : decode cX12_name 101 = .ok (.getfield 172, 3) := by decide +kernel
theorem dX12_name_104 : decode cX12_name 104 = .ok (.invokevirtual 196, 3) := by decide +kernel
theorem dX12_name_107 : decode cX12_name 107 = .ok (.lconst 0, 1) := by decide +kernel
theorem dX12_name_108 : decode cX12_name 108 = .ok (.lreturn, 1) := by decide +kernel
theorem dX12_name_109 : decode cX12_name 109 = .ok (.ldc2_w 217, 3) := by decide +kernel
theorem dX12_name_112 : decode cX12_name 112 = .ok (.lload_n 1, 1) := by decide +kernel
theorem dX12_name_113 : decode cX12_name 113 = .ok (.lmul, 1) := by decide +kernel
theorem dX12_name_114 : decode cX12_name 114 = .ok (.aload_n 0, 1) := by decide +kernel
theorem dX12_name_115 : decode cX12_name 115 = .ok (.getfield 7, 3) := by decide +kernel
theorem dX12_name_118 : decode cX12_name 118 = .ok (.aload_n 0, 1) := by decide +kernel
theorem dX12_name_119 : decode cX12_name 119 = .ok (.getfield 172, 3) := by decide +kernel
theorem dX12_name_122 : decode cX12_name 122 = .ok (.iaload, 1) := by decide +kernel
theorem dX12_name_123 : decode cX12_name 123 = .ok (.i2l, 1) := by decide +kernel
theorem dX12_name_124 : decode cX12_name 124 = .ok (.ladd, 1) := by decide +kernel
theorem dX12_name_125 : decode cX12_name 125 = .ok (.ldc2_w 219, 3) := by decide +kernel
theorem dX12_name_128 : decode cX12_name 128 = .ok (.lsub, 1) := by decide +kernel
theorem dX12_name_129 : decode cX12_name 129 = .ok (.lconst 1, 1) := by decide +kernel
theorem dX12_name_130 : decode cX12_name 130 = .ok (.ladd, 1) := by decide +kernel
theorem dX12_name_131 : decode cX12_name 131 = .ok (.lstore_n 1, 1) := by decide +kernel
theorem dX12_name_132 : decode cX12_name 132 = .ok (.aload_n 0, 1) := by decide +kernel
theorem dX12_name_133 : decode cX12_name 133 = .ok (.dup, 1) := by decide +kernel
theorem dX12_name_134 : decode cX12_name 134 = .ok (.getfield 172, 3) := by decide +kernel
theorem dX12_name_137 : decode cX12_name 137 = .ok (.iconst 1, 1) := by decide +kernel
theorem dX12_name_138 : decode cX12_name 138 = .ok (.iadd, 1) := by decide +kernel
theorem dX12_name_139 : decode cX12_name 139 = .ok (.putfield 172, 3) := by decide +kernel
theorem dX12_name_142 : decode cX12_name 142 = .ok (.goto (-84), 3) := by decide +kernel
theorem dX12_name_145 : decode cX12_name 145 = .ok (.aload_n 0, 1) := by decide +kernel
theorem dX12_name_146 : decode cX12_name 146 = .ok (.aload_n 0, 1) := by decide +kernel
theorem dX12_name_147 : decode cX12_name 147 = .ok (.getfield 172, 3) := by decide +kernel
theorem dX12_name_150 : decode cX12_name 150 = .ok (.putfield 186, 3) := by decide +kernel
theorem dX12_name_153 : decode cX12_name 153 = .ok (.lload_n 1, 1) := by decide +kernel
theorem dX12_name_154 : decode cX12_name 154 = .ok (.lreturn, 1) := by decide +kernel
theorem dX12_personOf_0 : decode cX12_personOf 0 = .ok (.iconst 0, 1) := by decide +kernel
theorem dX12_personOf_1 : decode cX12_personOf 1 = .ok (.istore_n 3, 1) := by decide +kernel
theorem dX12_personOf_2 : decode cX12_personOf 2 = .ok (.iload_n 3, 1) := by decide +kernel
theorem dX12_personOf_3 : decode cX12_personOf 3 = .ok (.aload_n 0, 1) := by decide +kernel
theorem dX12_personOf_4 : decode cX12_personOf 4 = .ok (.getfield 75, 3) := by decide +kernel
theorem dX12_personOf_7 : decode cX12_personOf 7 = .ok (.iconst 0, 1) := by decide +kernel
theorem dX12_personOf_8 : decode cX12_personOf 8 = .ok (.iaload, 1) := by decide +kernel
theorem dX12_personOf_9 : decode cX12_personOf 9 = .ok (.if_icmp .ge 22, 3) := by decide +kernel
theorem dX12_personOf_12 : decode cX12_personOf 12 = .ok (.aload_n 0, 1) := by decide +kernel
theorem dX12_personOf_13 : decode cX12_personOf 13 = .ok (.getfield 78, 3) := by decide +kernel
theorem dX12_personOf_16 : decode cX12_personOf 16 = .ok (.iload_n 3, 1) := by decide +kernel
theorem dX12_personOf_17 : decode cX12_personOf 17 = .ok (.laload, 1) := by decide +kernel
theorem dX12_personOf_18 : decode cX12_personOf 18 = .ok (.lload_n 1, 1) := by decide +kernel
theorem dX12_personOf_19 : decode cX12_personOf 19 = .ok (.lcmp, 1) := by decide +kernel
theorem dX12_personOf_20 : decode cX12_personOf 20 = .ok (.ifCond .ne 5, 3) := by decide +kernel
theorem dX12_personOf_23 : decode cX12_personOf 23 = .ok (.iload_n 3, 1) := by decide +kernel
theorem dX12_personOf_24 : decode cX12_personOf 24 = .ok (.ireturn, 1) := by decide +kernel
theorem dX12_personOf_25 : decode cX12_personOf 25 = .ok (.iinc 3 1, 3) := by decide +kernel
theorem dX12_personOf_28 : decode cX12_personOf 28 = .ok (.goto (-26), 3) := by decide +kernel
theorem dX12_personOf_31 : decode cX12_personOf 31 = .ok (.iconst (-1), 1) := by decide +kernel
theorem dX12_personOf_32 : decode cX12_personOf 32 = .ok (.ireturn, 1) := by decide +kernel
theorem dX12_personTold_0 : decode cX12_personTold 0 = .ok (.aload_n 0, 1) := by decide +kernel
theorem dX12_personTold_1 : decode cX12_personTold 1 = .ok (.invokevirtual 221, 3) := by decide +kernel
theorem dX12_personTold_4 : decode cX12_personTold 4 = .ok (.lstore_n 2, 1) := by decide +kernel
theorem dX12_personTold_5 : decode cX12_personTold 5 = .ok (.aload_n 0, 1) := by decide +kernel
theorem dX12_personTold_6 : decode cX12_personTold 6 = .ok (.getfield 166, 3) := by decide +kernel
theorem dX12_personTold_9 : decode cX12_personTold 9 = .ok (.ifCond .eq 5, 3) := by decide +kernel
theorem dX12_personTold_12 : decode cX12_personTold 12 = .ok (.iconst 0, 1) := by decide +kernel
theorem dX12_personTold_13 : decode cX12_personTold 13 = .ok (.ireturn, 1) := by decide +kernel
theorem dX12_personTold_14 : decode cX12_personTold 14 = .ok (.aload_n 0, 1) := by decide +kernel
theorem dX12_personTold_15 : decode cX12_personTold 15 = .ok (.lload_n 2, 1) := by decide +kernel
theorem dX12_personTold_16 : decode cX12_personTold 16 = .ok (.invokevirtual 225, 3) := by decide +kernel
theorem dX12_personTold_19 : decode cX12_personTold 19 = .ok (.istore 4, 2) := by decide +kernel
theorem dX12_personTold_21 : decode cX12_personTold 21 = .ok (.iload 4, 2) := by decide +kernel
theorem dX12_personTold_23 : decode cX12_personTold 23 = .ok (.iconst (-1), 1) := by decide +kernel
theorem dX12_personTold_24 : decode cX12_personTold 24 = .ok (.if_icmp .eq 9, 3) := by decide +kernel
theorem dX12_personTold_27 : decode cX12_personTold 27 = .ok (.iload 4, 2) := by decide +kernel
theorem dX12_personTold_29 : decode cX12_personTold 29 = .ok (.iload_n 1, 1) := by decide +kernel
theorem dX12_personTold_30 : decode cX12_personTold 30 = .ok (.if_icmp .ne 12, 3) := by decide +kernel
theorem dX12_personTold_33 : decode cX12_personTold 33 = .ok (.aload_n 0, 1) := by decide +kernel
theorem dX12_personTold_34 : decode cX12_personTold 34 = .ok (.iconst 3, 1) := by decide +kernel
theorem dX12_personTold_35 : decode cX12_personTold 35 = .ok (.aload_n 0, 1) := by decide +kernel
theorem dX12_personTold_36 : decode cX12_personTold 36 = .ok (.getfield 214, 3) := by decide +kernel
theorem dX12_personTold_39 : decode cX12_personTold 39 = .ok (.invokevirtual 196, 3) := by decide +kernel
theorem dX12_personTold_42 : decode cX12_personTold 42 = .ok (.iload 4, 2) := by decide +kernel
theorem dX12_personTold_44 : decode cX12_personTold 44 = .ok (.iconst (-1), 1) := by decide +kernel
theorem dX12_personTold_45 : decode cX12_personTold 45 = .ok (.if_icmp .ne 7, 3) := by decide +kernel
theorem dX12_personTold_48 : decode cX12_personTold 48 = .ok (.iconst 0, 1) := by decide +kernel
theorem dX12_personTold_49 : decode cX12_personTold 49 = .ok (.goto 5, 3) := by decide +kernel
theorem dX12_personTold_52 : decode cX12_personTold 52 = .ok (.iload 4, 2) := by decide +kernel
theorem dX12_personTold_54 : decode cX12_personTold 54 = .ok (.ireturn, 1) := by decide +kernel
theorem dX12_code_0 : decode cX12_code 0 = .ok (.aload_n 0, 1) := by decide +kernel
theorem dX12_code_1 : decode cX12_code 1 = .ok (.getfield 109, 3) := by decide +kernel
theorem dX12_code_4 : decode cX12_code 4 = .ok (.iconst 0, 1) := by decide +kernel
theorem dX12_code_5 : decode cX12_code 5 = .ok (.aload_n 0, 1) := by decide +kernel
theorem dX12_code_6 : decode cX12_code 6 = .ok (.getfield 229, 3) := by decide +kernel
theorem dX12_code_9 : decode cX12_code 9 = .ok (.iadd, 1) := by decide +kernel
theorem dX12_code_10 : decode cX12_code 10 = .ok (.iload_n 1, 1) := by decide +kernel
theorem dX12_code_11 : decode cX12_code 11 = .ok (.iastore, 1) := by decide +kernel
theorem dX12_code_12 : decode cX12_code 12 = .ok (.aload_n 0, 1) := by decide +kernel
theorem dX12_code_13 : decode cX12_code 13 = .ok (.dup, 1) := by decide +kernel
theorem dX12_code_14 : decode cX12_code 14 = .ok (.getfield 229, 3) := by decide +kernel
theorem dX12_code_17 : decode cX12_code 17 = .ok (.iconst 1, 1) := by decide +kernel
theorem dX12_code_18 : decode cX12_code 18 = .ok (.iadd, 1) := by decide +kernel
theorem dX12_code_19 : decode cX12_code 19 = .ok (.putfield 229, 3) := by decide +kernel
theorem dX12_code_22 : decode cX12_code 22 = .ok (.return_, 1) := by decide +kernel
theorem dX12_opens_0 : decode cX12_opens 0 = .ok (.aload_n 0, 1) := by decide +kernel
theorem dX12_opens_1 : decode cX12_opens 1 = .ok (.getfield 232, 3) := by decide +kernel
theorem dX12_opens_4 : decode cX12_opens 4 = .ok (.bipush 6, 2) := by decide +kernel
theorem dX12_opens_6 : decode cX12_opens 6 = .ok (.if_icmp .ne 10, 3) := by decide +kernel
theorem dX12_opens_9 : decode cX12_opens 9 = .ok (.aload_n 0, 1) := by decide +kernel
theorem dX12_opens_10 : decode cX12_opens 10 = .ok (.iconst 4, 1) := by decide +kernel
theorem dX12_opens_11 : decode cX12_opens 11 = .ok (.iload_n 2, 1) := by decide +kernel
theorem dX12_opens_12 : decode cX12_opens 12 = .ok (.invokevirtual 196, 3) := by decide +kernel
theorem dX12_opens_15 : decode cX12_opens 15 = .ok (.return_, 1) := by decide +kernel
theorem dX12_opens_16 : decode cX12_opens 16 = .ok (.aload_n 0, 1) := by decide +kernel
theorem dX12_opens_17 : decode cX12_opens 17 = .ok (.dup, 1) := by decide +kernel
theorem dX12_opens_18 : decode cX12_opens 18 = .ok (.getfield 232, 3) := by decide +kernel
theorem dX12_opens_21 : decode cX12_opens 21 = .ok (.iconst 1, 1) := by decide +kernel
theorem dX12_opens_22 : decode cX12_opens 22 = .ok (.iadd, 1) := by decide +kernel
theorem dX12_opens_23 : decode cX12_opens 23 = .ok (.putfield 232, 3) := by decide +kernel
theorem dX12_opens_26 : decode cX12_opens 26 = .ok (.aload_n 0, 1) := by decide +kernel
theorem dX12_opens_27 : decode cX12_opens 27 = .ok (.getfield 112, 3) := by decide +kernel
theorem dX12_opens_30 : decode cX12_opens 30 = .ok (.aload_n 0, 1) := by decide +kernel
theorem dX12_opens_31 : decode cX12_opens 31 = .ok (.getfield 235, 3) := by decide +kernel
theorem dX12_opens_34 : decode cX12_opens 34 = .ok (.iload_n 1, 1) := by decide +kernel
theorem dX12_opens_35 : decode cX12_opens 35 = .ok (.iastore, 1) := by decide +kernel
theorem dX12_opens_36 : decode cX12_opens 36 = .ok (.aload_n 0, 1) := by decide +kernel
theorem dX12_opens_37 : decode cX12_opens 37 = .ok (.dup, 1) := by decide +kernel
theorem dX12_opens_38 : decode cX12_opens 38 = .ok (.getfield 235, 3) := by decide +kernel
theorem dX12_opens_41 : decode cX12_opens 41 = .ok (.iconst 1, 1) := by decide +kernel
theorem dX12_opens_42 : decode cX12_opens 42 = .ok (.iadd, 1) := by decide +kernel
theorem dX12_opens_43 : decode cX12_opens 43 = .ok (.putfield 235, 3) := by decide +kernel
theorem dX12_opens_46 : decode cX12_opens 46 = .ok (.return_, 1) := by decide +kernel
theorem dX12_isOn_0 : decode cX12_isOn 0 = .ok (.aload_n 0, 1) := by decide +kernel
theorem dX12_isOn_1 : decode cX12_isOn 1 = .ok (.getfield 235, 3) := by decide +kernel
theorem dX12_isOn_4 : decode cX12_isOn 4 = .ok (.ifCond .le 22, 3) := by decide +kernel
theorem dX12_isOn_7 : decode cX12_isOn 7 = .ok (.aload_n 0, 1) := by decide +kernel
theorem dX12_isOn_8 : decode cX12_isOn 8 = .ok (.getfield 112, 3) := by decide +kernel
theorem dX12_isOn_11 : decode cX12_isOn 11 = .ok (.aload_n 0, 1) := by decide +kernel
theorem dX12_isOn_12 : decode cX12_isOn 12 = .ok (.getfield 235, 3) := by decide +kernel
theorem dX12_isOn_15 : decode cX12_isOn 15 = .ok (.iconst 1, 1) := by decide +kernel
theorem dX12_isOn_16 : decode cX12_isOn 16 = .ok (.isub, 1) := by decide +kernel
theorem dX12_isOn_17 : decode cX12_isOn 17 = .ok (.iaload, 1) := by decide +kernel
theorem dX12_isOn_18 : decode cX12_isOn 18 = .ok (.iload_n 1, 1) := by decide +kernel
theorem dX12_isOn_19 : decode cX12_isOn 19 = .ok (.if_icmp .ne 7, 3) := by decide +kernel
theorem dX12_isOn_22 : decode cX12_isOn 22 = .ok (.iconst 1, 1) := by decide +kernel
theorem dX12_isOn_23 : decode cX12_isOn 23 = .ok (.goto 4, 3) := by decide +kernel
theorem dX12_isOn_26 : decode cX12_isOn 26 = .ok (.iconst 0, 1) := by decide +kernel
theorem dX12_isOn_27 : decode cX12_isOn 27 = .ok (.ireturn, 1) := by decide +kernel
theorem dX12_drops_0 : decode cX12_drops 0 = .ok (.aload_n 0, 1) := by decide +kernel
theorem dX12_drops_1 : decode cX12_drops 1 = .ok (.dup, 1) := by decide +kernel
theorem dX12_drops_2 : decode cX12_drops 2 = .ok (.getfield 235, 3) := by decide +kernel
theorem dX12_drops_5 : decode cX12_drops 5 = .ok (.iconst 1, 1) := by decide +kernel
theorem dX12_drops_6 : decode cX12_drops 6 = .ok (.isub, 1) := by decide +kernel
theorem dX12_drops_7 : decode cX12_drops 7 = .ok (.putfield 235, 3) := by decide +kernel
theorem dX12_drops_10 : decode cX12_drops 10 = .ok (.aload_n 0, 1) := by decide +kernel
theorem dX12_drops_11 : decode cX12_drops 11 = .ok (.aload_n 0, 1) := by decide +kernel
theorem dX12_drops_12 : decode cX12_drops 12 = .ok (.getfield 112, 3) := by decide +kernel
theorem dX12_drops_15 : decode cX12_drops 15 = .ok (.aload_n 0, 1) := by decide +kernel
theorem dX12_drops_16 : decode cX12_drops 16 = .ok (.getfield 235, 3) := by decide +kernel
theorem dX12_drops_19 : decode cX12_drops 19 = .ok (.iaload, 1) := by decide +kernel
theorem dX12_drops_20 : decode cX12_drops 20 = .ok (.invokevirtual 238, 3) := by decide +kernel
theorem dX12_drops_23 : decode cX12_drops 23 = .ok (.return_, 1) := by decide +kernel
theorem dX12_isMark_0 : decode cX12_isMark 0 = .ok (.iload_n 1, 1) := by decide +kernel
theorem dX12_isMark_1 : decode cX12_isMark 1 = .ok (.bipush 20, 2) := by decide +kernel
theorem dX12_isMark_3 : decode cX12_isMark 3 = .ok (.if_icmp .lt 13, 3) := by decide +kernel
theorem dX12_isMark_6 : decode cX12_isMark 6 = .ok (.iload_n 1, 1) := by decide +kernel
theorem dX12_isMark_7 : decode cX12_isMark 7 = .ok (.bipush 24, 2) := by decide +kernel
theorem dX12_isMark_9 : decode cX12_isMark 9 = .ok (.if_icmp .gt 7, 3) := by decide +kernel
theorem dX12_isMark_12 : decode cX12_isMark 12 = .ok (.iconst 1, 1) := by decide +kernel
theorem dX12_isMark_13 : decode cX12_isMark 13 = .ok (.goto 4, 3) := by decide +kernel
theorem dX12_isMark_16 : decode cX12_isMark 16 = .ok (.iconst 0, 1) := by decide +kernel
theorem dX12_isMark_17 : decode cX12_isMark 17 = .ok (.ireturn, 1) := by decide +kernel
theorem dX12_mark_0 : decode cX12_mark 0 = .ok (.aload_n 0, 1) := by decide +kernel
theorem dX12_mark_1 : decode cX12_mark 1 = .ok (.getfield 235, 3) := by decide +kernel
theorem dX12_mark_4 : decode cX12_mark 4 = .ok (.iconst 1, 1) := by decide +kernel
theorem dX12_mark_5 : decode cX12_mark 5 = .ok (.isub, 1) := by decide +kernel
theorem dX12_mark_6 : decode cX12_mark 6 = .ok (.istore_n 1, 1) := by decide +kernel
theorem dX12_mark_7 : decode cX12_mark 7 = .ok (.iload_n 1, 1) := by decide +kernel
theorem dX12_mark_8 : decode cX12_mark 8 = .ok (.aload_n 0, 1) := by decide +kernel
theorem dX12_mark_9 : decode cX12_mark 9 = .ok (.getfield 242, 3) := by decide +kernel
theorem dX12_mark_12 : decode cX12_mark 12 = .ok (.if_icmp .lt 22, 3) := by decide +kernel
theorem dX12_mark_15 : decode cX12_mark 15 = .ok (.aload_n 0, 1) := by decide +kernel
theorem dX12_mark_16 : decode cX12_mark 16 = .ok (.aload_n 0, 1) := by decide +kernel
theorem dX12_mark_17 : decode cX12_mark 17 = .ok (.getfield 112, 3) := by decide +kernel
theorem dX12_mark_20 : decode cX12_mark 20 = .ok (.iload_n 1, 1) := by decide +kernel
theorem dX12_mark_21 : decode cX12_mark 21 = .ok (.iaload, 1) := by decide +kernel
theorem dX12_mark_22 : decode cX12_mark 22 = .ok (.invokevirtual 245, 3) := by decide +kernel
theorem dX12_mark_25 : decode cX12_mark 25 = .ok (.ifCond .ne 9, 3) := by decide +kernel
theorem dX12_mark_28 : decode cX12_mark 28 = .ok (.iinc 1 (-1), 3) := by decide +kernel
theorem dX12_mark_31 : decode cX12_mark 31 = .ok (.goto (-24), 3) := by decide +kernel
theorem dX12_mark_34 : decode cX12_mark 34 = .ok (.iload_n 1, 1) := by decide +kernel
theorem dX12_mark_35 : decode cX12_mark 35 = .ok (.aload_n 0, 1) := by decide +kernel
theorem dX12_mark_36 : decode cX12_mark 36 = .ok (.getfield 242, 3) := by decide +kernel
theorem dX12_mark_39 : decode cX12_mark 39 = .ok (.if_icmp .lt 12, 3) := by decide +kernel
theorem dX12_mark_42 : decode cX12_mark 42 = .ok (.aload_n 0, 1) := by decide +kernel
theorem dX12_mark_43 : decode cX12_mark 43 = .ok (.getfield 112, 3) := by decide +kernel
theorem dX12_mark_46 : decode cX12_mark 46 = .ok (.iload_n 1, 1) := by decide +kernel
theorem dX12_mark_47 : decode cX12_mark 47 = .ok (.iaload, 1) := by decide +kernel
theorem dX12_mark_48 : decode cX12_mark 48 = .ok (.goto 4, 3) := by decide +kernel
theorem dX12_mark_51 : decode cX12_mark 51 = .ok (.iconst (-1), 1) := by decide +kernel
theorem dX12_mark_52 : decode cX12_mark 52 = .ok (.ireturn, 1) := by decide +kernel
theorem dX12_dropsToMark_0 : decode cX12_dropsToMark 0 = .ok (.aload_n 0, 1) := by decide +kernel
theorem dX12_dropsToMark_1 : decode cX12_dropsToMark 1 = .ok (.getfield 235, 3) := by decide +kernel
theorem dX12_dropsToMark_4 : decode cX12_dropsToMark 4 = .ok (.aload_n 0, 1) := by decide +kernel
theorem dX12_dropsToMark_5 : decode cX12_dropsToMark 5 = .ok (.getfield 242, 3) := by decide +kernel
theorem dX12_dropsToMark_8 : decode cX12_dropsToMark 8 = .ok (.if_icmp .le 28, 3) := by decide +kernel
theorem dX12_dropsToMark_11 : decode cX12_dropsToMark 11 = .ok (.aload_n 0, 1) := by decide +kernel
theorem dX12_dropsToMark_12 : decode cX12_dropsToMark 12 = .ok (.aload_n 0, 1) := by decide +kernel
theorem dX12_dropsToMark_13 : decode cX12_dropsToMark 13 = .ok (.getfield 112, 3) := by decide +kernel
theorem dX12_dropsToMark_16 : decode cX12_dropsToMark 16 = .ok (.aload_n 0, 1) := by decide +kernel
theorem dX12_dropsToMark_17 : decode cX12_dropsToMark 17 = .ok (.getfield 235, 3) := by decide +kernel
theorem dX12_dropsToMark_20 : decode cX12_dropsToMark 20 = .ok (.iconst 1, 1) := by decide +kernel
theorem dX12_dropsToMark_21 : decode cX12_dropsToMark 21 = .ok (.isub, 1) := by decide +kernel
theorem dX12_dropsToMark_22 : decode cX12_dropsToMark 22 = .ok (.iaload, 1) := by decide +kernel
theorem dX12_dropsToMark_23 : decode cX12_dropsToMark 23 = .ok (.invokevirtual 245, 3) := by decide +kernel
theorem dX12_dropsToMark_26 : decode cX12_dropsToMark 26 = .ok (.ifCond .ne 10, 3) := by decide +kernel
theorem dX12_dropsToMark_29 : decode cX12_dropsToMark 29 = .ok (.aload_n 0, 1) := by decide +kernel
theorem dX12_dropsToMark_30 : decode cX12_dropsToMark 30 = .ok (.invokevirtual 248, 3) := by decide +kernel
theorem dX12_dropsToMark_33 : decode cX12_dropsToMark 33 = .ok (.goto (-33), 3) := by decide +kernel
theorem dX12_dropsToMark_36 : decode cX12_dropsToMark 36 = .ok (.return_, 1) := by decide +kernel
theorem dX12_onePart_0 : decode cX12_onePart 0 = .ok (.iconst 1, 1) := by decide +kernel
theorem dX12_onePart_1 : decode cX12_onePart 1 = .ok (.istore_n 1, 1) := by decide +kernel
theorem dX12_onePart_2 : decode cX12_onePart 2 = .ok (.iload_n 1, 1) := by decide +kernel
theorem dX12_onePart_3 : decode cX12_onePart 3 = .ok (.ifCond .eq 143, 3) := by decide +kernel
theorem dX12_onePart_6 : decode cX12_onePart 6 = .ok (.aload_n 0, 1) := by decide +kernel
theorem dX12_onePart_7 : decode cX12_onePart 7 = .ok (.getfield 166, 3) := by decide +kernel
theorem dX12_onePart_10 : decode cX12_onePart 10 = .ok (.ifCond .ne 136, 3) := by decide +kernel
theorem dX12_onePart_13 : decode cX12_onePart 13 = .ok (.aload_n 0, 1) := by decide +kernel
theorem dX12_onePart_14 : decode cX12_onePart 14 = .ok (.invokevirtual 178, 3) := by decide +kernel
theorem dX12_onePart_17 : decode cX12_onePart 17 = .ok (.istore_n 2, 1) := by decide +kernel
theorem dX12_onePart_18 : decode cX12_onePart 18 = .ok (.iload_n 2, 1) := by decide +kernel
theorem dX12_onePart_19 : decode cX12_onePart 19 = .ok (.bipush 40, 2) := by decide +kernel
theorem dX12_onePart_21 : decode cX12_onePart 21 = .ok (.if_icmp .ne 26, 3) := by decide +kernel
theorem dX12_onePart_24 : decode cX12_onePart 24 = .ok (.aload_n 0, 1) := by decide +kernel
theorem dX12_onePart_25 : decode cX12_onePart 25 = .ok (.bipush 20, 2) := by decide +kernel
theorem dX12_onePart_27 : decode cX12_onePart 27 = .ok (.aload_n 0, 1) := by decide +kernel
theorem dX12_onePart_28 : decode cX12_onePart 28 = .ok (.getfield 172, 3) := by decide +kernel
theorem dX12_onePart_31 : decode cX12_onePart 31 = .ok (.invokevirtual 251, 3) := by decide +kernel
theorem dX12_onePart_34 : decode cX12_onePart 34 = .ok (.aload_n 0, 1) := by decide +kernel
theorem dX12_onePart_35 : decode cX12_onePart 35 = .ok (.dup, 1) := by decide +kernel
theorem dX12_onePart_36 : decode cX12_onePart 36 = .ok (.getfield 172, 3) := by decide +kernel
theorem dX12_onePart_39 : decode cX12_onePart 39 = .ok (.iconst 1, 1) := by decide +kernel
theorem dX12_onePart_40 : decode cX12_onePart 40 = .ok (.iadd, 1) := by decide +kernel
theorem dX12_onePart_41 : decode cX12_onePart 41 = .ok (.putfield 172, 3) := by decide +kernel
theorem dX12_onePart_44 : decode cX12_onePart 44 = .ok (.goto 99, 3) := by decide +kernel
theorem dX12_onePart_47 : decode cX12_onePart 47 = .ok (.aload_n 0, 1) := by decide +kernel
theorem dX12_onePart_48 : decode cX12_onePart 48 = .ok (.aload_n 0, 1) := by decide +kernel
theorem dX12_onePart_49 : decode cX12_onePart 49 = .ok (.getfield 69, 3) := by decide +kernel
theorem dX12_onePart_52 : decode cX12_onePart 52 = .ok (.invokevirtual 189, 3) := by decide +kernel
theorem dX12_onePart_55 : decode cX12_onePart 55 = .ok (.ifCond .ne 14, 3) := by decide +kernel
theorem dX12_onePart_58 : decode cX12_onePart 58 = .ok (.aload_n 0, 1) := by decide +kernel
theorem dX12_onePart_59 : decode cX12_onePart 59 = .ok (.aload_n 0, 1) := by decide +kernel
theorem dX12_onePart_60 : decode cX12_onePart 60 = .ok (.getfield 72, 3) := by decide +kernel
theorem dX12_onePart_63 : decode cX12_onePart 63 = .ok (.invokevirtual 189, 3) := by decide +kernel
theorem dX12_onePart_66 : decode cX12_onePart 66 = .ok (.ifCond .eq 75, 3) := by decide +kernel
theorem dX12_onePart_69 : decode cX12_onePart 69 = .ok (.aload_n 0, 1) := by decide +kernel
theorem dX12_onePart_70 : decode cX12_onePart 70 = .ok (.aload_n 0, 1) := by decide +kernel
theorem dX12_onePart_71 : decode cX12_onePart 71 = .ok (.getfield 69, 3) := by decide +kernel
theorem dX12_onePart_74 : decode cX12_onePart 74 = .ok (.invokevirtual 193, 3) := by decide +kernel
theorem dX12_onePart_77 : decode cX12_onePart 77 = .ok (.istore_n 3, 1) := by decide +kernel
theorem dX12_onePart_78 : decode cX12_onePart 78 = .ok (.iload_n 3, 1) := by decide +kernel
theorem dX12_onePart_79 : decode cX12_onePart 79 = .ok (.ifCond .ne 11, 3) := by decide +kernel
theorem dX12_onePart_82 : decode cX12_onePart 82 = .ok (.aload_n 0, 1) := by decide +kernel
theorem dX12_onePart_83 : decode cX12_onePart 83 = .ok (.aload_n 0, 1) := by decide +kernel
theorem dX12_onePart_84 : decode cX12_onePart 84 = .ok (.getfield 72, 3) := by decide +kernel
theorem dX12_onePart_87 : decode cX12_onePart 87 = .ok (.invokevirtual 254, 3) := by decide +kernel
theorem dX12_onePart_90 : decode cX12_onePart 90 = .ok (.aload_n 0, 1) := by decide +kernel
theorem dX12_onePart_91 : decode cX12_onePart 91 = .ok (.invokevirtual 178, 3) := by decide +kernel
theorem dX12_onePart_94 : decode cX12_onePart 94 = .ok (.bipush 40, 2) := by decide +kernel
theorem dX12_onePart_96 : decode cX12_onePart 96 = .ok (.if_icmp .ne 10, 3) := by decide +kernel
theorem dX12_onePart_99 : decode cX12_onePart 99 = .ok (.aload_n 0, 1) := by decide +kernel
theorem dX12_onePart_100 : decode cX12_onePart 100 = .ok (.getfield 172, 3) := by decide +kernel
theorem dX12_onePart_103 : decode cX12_onePart 103 = .ok (.goto 4, 3) := by decide +kernel
theorem dX12_onePart_106 : decode cX12_onePart 106 = .ok (.iconst (-1), 1) := by decide +kernel
theorem dX12_onePart_107 : decode cX12_onePart 107 = .ok (.istore 4, 2) := by decide +kernel
theorem dX12_onePart_109 : decode cX12_onePart 109 = .ok (.iload 4, 2) := by decide +kernel
theorem dX12_onePart_111 : decode cX12_onePart 111 = .ok (.iconst (-1), 1) := by decide +kernel
theorem dX12_onePart_112 : decode cX12_onePart 112 = .ok (.if_icmp .eq 20, 3) := by decide +kernel
theorem dX12_onePart_115 : decode cX12_onePart 115 = .ok (.aload_n 0, 1) := by decide +kernel
theorem dX12_onePart_116 : decode cX12_onePart 116 = .ok (.iload_n 3, 1) := by decide +kernel
theorem dX12_onePart_117 : decode cX12_onePart 117 = .ok (.ifCond .eq 8, 3) := by decide +kernel
theorem dX12_onePart_120 : decode cX12_onePart 120 = .ok (.bipush 21, 2) := by decide +kernel
theorem dX12_onePart_122 : decode cX12_onePart 122 = .ok (.goto 5, 3) := by decide +kernel
theorem dX12_onePart_125 : decode cX12_onePart 125 = .ok (.bipush 22, 2) := by decide +kernel
theorem dX12_onePart_127 : decode cX12_onePart 127 = .ok (.iload 4, 2) := by decide +kernel
theorem dX12_onePart_129 : decode cX12_onePart 129 = .ok (.invokevirtual 251, 3) := by decide +kernel
theorem dX12_onePart_132 : decode cX12_onePart 132 = .ok (.aload_n 0, 1) := by decide +kernel
theorem dX12_onePart_133 : decode cX12_onePart 133 = .ok (.bipush 40, 2) := by decide +kernel
theorem dX12_onePart_135 : decode cX12_onePart 135 = .ok (.invokevirtual 258, 3) := by decide +kernel
theorem dX12_onePart_138 : decode cX12_onePart 138 = .ok (.goto 5, 3) := by decide +kernel
theorem dX12_onePart_141 : decode cX12_onePart 141 = .ok (.iconst 0, 1) := by decide +kernel
theorem dX12_onePart_142 : decode cX12_onePart 142 = .ok (.istore_n 1, 1) := by decide +kernel
theorem dX12_onePart_143 : decode cX12_onePart 143 = .ok (.goto (-141), 3) := by decide +kernel
theorem dX12_onePart_146 : decode cX12_onePart 146 = .ok (.aload_n 0, 1) := by decide +kernel
theorem dX12_onePart_147 : decode cX12_onePart 147 = .ok (.getfield 166, 3) := by decide +kernel
theorem dX12_onePart_150 : decode cX12_onePart 150 = .ok (.ifCond .eq 4, 3) := by decide +kernel
theorem dX12_onePart_153 : decode cX12_onePart 153 = .ok (.return_, 1) := by decide +kernel
theorem dX12_onePart_154 : decode cX12_onePart 154 = .ok (.aload_n 0, 1) := by decide +kernel
theorem dX12_onePart_155 : decode cX12_onePart 155 = .ok (.aload_n 0, 1) := by decide +kernel
theorem dX12_onePart_156 : decode cX12_onePart 156 = .ok (.getfield 54, 3) := by decide +kernel
theorem dX12_onePart_159 : decode cX12_onePart 159 = .ok (.invokevirtual 193, 3) := by decide +kernel
theorem dX12_onePart_162 : decode cX12_onePart 162 = .ok (.ifCond .eq 8, 3) := by decide +kernel
theorem dX12_onePart_165 : decode cX12_onePart 165 = .ok (.bipush 7, 2) := by decide +kernel
theorem dX12_onePart_167 : decode cX12_onePart 167 = .ok (.goto 68, 3) := by decide +kernel
theorem dX12_onePart_170 : decode cX12_onePart 170 = .ok (.aload_n 0, 1) := by decide +kernel
theorem dX12_onePart_171 : decode cX12_onePart 171 = .ok (.aload_n 0, 1) := by decide +kernel
theorem dX12_onePart_172 : decode cX12_onePart 172 = .ok (.getfield 57, 3) := by decide +kernel
theorem dX12_onePart_175 : decode cX12_onePart 175 = .ok (.invokevirtual 193, 3) := by decide +kernel
theorem dX12_onePart_178 : decode cX12_onePart 178 = .ok (.ifCond .eq 8, 3) := by decide +kernel
theorem dX12_onePart_181 : decode cX12_onePart 181 = .ok (.bipush 8, 2) := by decide +kernel
theorem dX12_onePart_183 : decode cX12_onePart 183 = .ok (.goto 52, 3) := by decide +kernel
theorem dX12_onePart_186 : decode cX12_onePart 186 = .ok (.aload_n 0, 1) := by decide +kernel
theorem dX12_onePart_187 : decode cX12_onePart 187 = .ok (.aload_n 0, 1) := by decide +kernel
theorem dX12_onePart_188 : decode cX12_onePart 188 = .ok (.getfield 60, 3) := by decide +kernel
theorem dX12_onePart_191 : decode cX12_onePart 191 = .ok (.invokevirtual 193, 3) := by decide +kernel
theorem dX12_onePart_194 : decode cX12_onePart 194 = .ok (.ifCond .eq 8, 3) := by decide +kernel
theorem dX12_onePart_197 : decode cX12_onePart 197 = .ok (.bipush 9, 2) := by decide +kernel
theorem dX12_onePart_199 : decode cX12_onePart 199 = .ok (.goto 36, 3) := by decide +kernel
theorem dX12_onePart_202 : decode cX12_onePart 202 = .ok (.aload_n 0, 1) := by decide +kernel
theorem dX12_onePart_203 : decode cX12_onePart 203 = .ok (.aload_n 0, 1) := by decide +kernel
theorem dX12_onePart_204 : decode cX12_onePart 204 = .ok (.getfield 63, 3) := by decide +kernel
theorem dX12_onePart_207 : decode cX12_onePart 207 = .ok (.invokevirtual 193, 3) := by decide +kernel
theorem dX12_onePart_210 : decode cX12_onePart 210 = .ok (.ifCond .eq 8, 3) := by decide +kernel
theorem dX12_onePart_213 : decode cX12_onePart 213 = .ok (.bipush 10, 2) := by decide +kernel
theorem dX12_onePart_215 : decode cX12_onePart 215 = .ok (.goto 20, 3) := by decide +kernel
theorem dX12_onePart_218 : decode cX12_onePart 218 = .ok (.aload_n 0, 1) := by decide +kernel
theorem dX12_onePart_219 : decode cX12_onePart 219 = .ok (.aload_n 0, 1) := by decide +kernel
theorem dX12_onePart_220 : decode cX12_onePart 220 = .ok (.getfield 66, 3) := by decide +kernel
theorem dX12_onePart_223 : decode cX12_onePart 223 = .ok (.invokevirtual 193, 3) := by decide +kernel
theorem dX12_onePart_226 : decode cX12_onePart 226 = .ok (.ifCond .eq 8, 3) := by decide +kernel
theorem dX12_onePart_229 : decode cX12_onePart 229 = .ok (.bipush 18, 2) := by decide +kernel
theorem dX12_onePart_231 : decode cX12_onePart 231 = .ok (.goto 4, 3) := by decide +kernel
theorem dX12_onePart_234 : decode cX12_onePart 234 = .ok (.iconst (-1), 1) := by decide +kernel
theorem dX12_onePart_235 : decode cX12_onePart 235 = .ok (.istore_n 2, 1) := by decide +kernel
theorem dX12_onePart_236 : decode cX12_onePart 236 = .ok (.aload_n 0, 1) := by decide +kernel
theorem dX12_onePart_237 : decode cX12_onePart 237 = .ok (.iload_n 2, 1) := by decide +kernel
theorem dX12_onePart_238 : decode cX12_onePart 238 = .ok (.iconst (-1), 1) := by decide +kernel
theorem dX12_onePart_239 : decode cX12_onePart 239 = .ok (.if_icmp .eq 7, 3) := by decide +kernel
theorem dX12_onePart_242 : decode cX12_onePart 242 = .ok (.iload_n 2, 1) := by decide +kernel
theorem dX12_onePart_243 : decode cX12_onePart 243 = .ok (.goto 15, 3) := by decide +kernel
theorem dX12_onePart_246 : decode cX12_onePart 246 = .ok (.sipush 1000, 3) := by decide +kernel
theorem dX12_onePart_249 : decode cX12_onePart 249 = .ok (.aload_n 0, 1) := by decide +kernel
theorem dX12_onePart_250 : decode cX12_onePart 250 = .ok (.iconst 0, 1) := by decide +kernel
theorem dX12_onePart_251 : decode cX12_onePart 251 = .ok (.sipush 9999, 3) := by decide +kernel
theorem dX12_onePart_254 : decode cX12_onePart 254 = .ok (.invokevirtual 261, 3) := by decide +kernel
theorem dX12_onePart_257 : decode cX12_onePart 257 = .ok (.iadd, 1) := by decide +kernel
theorem dX12_onePart_258 : decode cX12_onePart 258 = .ok (.invokevirtual 238, 3) := by decide +kernel
theorem dX12_onePart_261 : decode cX12_onePart 261 = .ok (.return_, 1) := by decide +kernel
theorem dX12_goesOn_0 : decode cX12_goesOn 0 = .ok (.aload_n 0, 1) := by decide +kernel
theorem dX12_goesOn_1 : decode cX12_goesOn 1 = .ok (.getfield 166, 3) := by decide +kernel
theorem dX12_goesOn_4 : decode cX12_goesOn 4 = .ok (.ifCond .ne 114, 3) := by decide +kernel
theorem dX12_goesOn_7 : decode cX12_goesOn 7 = .ok (.aload_n 0, 1) := by decide +kernel
theorem dX12_goesOn_8 : decode cX12_goesOn 8 = .ok (.invokevirtual 178, 3) := by decide +kernel
theorem dX12_goesOn_11 : decode cX12_goesOn 11 = .ok (.bipush 41, 2) := by decide +kernel
theorem dX12_goesOn_13 : decode cX12_goesOn 13 = .ok (.if_icmp .ne 105, 3) := by decide +kernel
theorem dX12_goesOn_16 : decode cX12_goesOn 16 = .ok (.aload_n 0, 1) := by decide +kernel
theorem dX12_goesOn_17 : decode cX12_goesOn 17 = .ok (.invokevirtual 265, 3) := by decide +kernel
theorem dX12_goesOn_20 : decode cX12_goesOn 20 = .ok (.bipush 20, 2) := by decide +kernel
theorem dX12_goesOn_22 : decode cX12_goesOn 22 = .ok (.if_icmp .eq 21, 3) := by decide +kernel
theorem dX12_goesOn_25 : decode cX12_goesOn 25 = .ok (.aload_n 0, 1) := by decide +kernel
theorem dX12_goesOn_26 : decode cX12_goesOn 26 = .ok (.invokevirtual 265, 3) := by decide +kernel
theorem dX12_goesOn_29 : decode cX12_goesOn 29 = .ok (.bipush 23, 2) := by decide +kernel
theorem dX12_goesOn_31 : decode cX12_goesOn 31 = .ok (.if_icmp .eq 12, 3) := by decide +kernel
theorem dX12_goesOn_34 : decode cX12_goesOn 34 = .ok (.aload_n 0, 1) := by decide +kernel
theorem dX12_goesOn_35 : decode cX12_goesOn 35 = .ok (.invokevirtual 265, 3) := by decide +kernel
theorem dX12_goesOn_38 : decode cX12_goesOn 38 = .ok (.bipush 24, 2) := by decide +kernel
theorem dX12_goesOn_40 : decode cX12_goesOn 40 = .ok (.if_icmp .ne 78, 3) := by decide +kernel
theorem dX12_goesOn_43 : decode cX12_goesOn 43 = .ok (.aload_n 0, 1) := by decide +kernel
theorem dX12_goesOn_44 : decode cX12_goesOn 44 = .ok (.dup, 1) := by decide +kernel
theorem dX12_goesOn_45 : decode cX12_goesOn 45 = .ok (.getfield 172, 3) := by decide +kernel
theorem dX12_goesOn_48 : decode cX12_goesOn 48 = .ok (.iconst 1, 1) := by decide +kernel
theorem dX12_goesOn_49 : decode cX12_goesOn 49 = .ok (.iadd, 1) := by decide +kernel
theorem dX12_goesOn_50 : decode cX12_goesOn 50 = .ok (.putfield 172, 3) := by decide +kernel
theorem dX12_goesOn_53 : decode cX12_goesOn 53 = .ok (.aload_n 0, 1) := by decide +kernel
theorem dX12_goesOn_54 : decode cX12_goesOn 54 = .ok (.invokevirtual 268, 3) := by decide +kernel
theorem dX12_goesOn_57 : decode cX12_goesOn 57 = .ok (.aload_n 0, 1) := by decide +kernel
theorem dX12_goesOn_58 : decode cX12_goesOn 58 = .ok (.dup, 1) := by decide +kernel
theorem dX12_goesOn_59 : decode cX12_goesOn 59 = .ok (.getfield 235, 3) := by decide +kernel
theorem dX12_goesOn_62 : decode cX12_goesOn 62 = .ok (.iconst 1, 1) := by decide +kernel
theorem dX12_goesOn_63 : decode cX12_goesOn 63 = .ok (.isub, 1) := by decide +kernel
theorem dX12_goesOn_64 : decode cX12_goesOn 64 = .ok (.putfield 235, 3) := by decide +kernel
theorem dX12_goesOn_67 : decode cX12_goesOn 67 = .ok (.aload_n 0, 1) := by decide +kernel
theorem dX12_goesOn_68 : decode cX12_goesOn 68 = .ok (.dup, 1) := by decide +kernel
theorem dX12_goesOn_69 : decode cX12_goesOn 69 = .ok (.getfield 232, 3) := by decide +kernel
theorem dX12_goesOn_72 : decode cX12_goesOn 72 = .ok (.iconst 1, 1) := by decide +kernel
theorem dX12_goesOn_73 : decode cX12_goesOn 73 = .ok (.isub, 1) := by decide +kernel
theorem dX12_goesOn_74 : decode cX12_goesOn 74 = .ok (.putfield 232, 3) := by decide +kernel
theorem dX12_goesOn_77 : decode cX12_goesOn 77 = .ok (.aload_n 0, 1) := by decide +kernel
theorem dX12_goesOn_78 : decode cX12_goesOn 78 = .ok (.getfield 112, 3) := by decide +kernel
theorem dX12_goesOn_81 : decode cX12_goesOn 81 = .ok (.aload_n 0, 1) := by decide +kernel
theorem dX12_goesOn_82 : decode cX12_goesOn 82 = .ok (.getfield 235, 3) := by decide +kernel
theorem dX12_goesOn_85 : decode cX12_goesOn 85 = .ok (.iaload, 1) := by decide +kernel
theorem dX12_goesOn_86 : decode cX12_goesOn 86 = .ok (.bipush 20, 2) := by decide +kernel
theorem dX12_goesOn_88 : decode cX12_goesOn 88 = .ok (.if_icmp .eq (-88), 3) := by decide +kernel
theorem dX12_goesOn_91 : decode cX12_goesOn 91 = .ok (.aload_n 0, 1) := by decide +kernel
theorem dX12_goesOn_92 : decode cX12_goesOn 92 = .ok (.aload_n 0, 1) := by decide +kernel
theorem dX12_goesOn_93 : decode cX12_goesOn 93 = .ok (.getfield 112, 3) := by decide +kernel
theorem dX12_goesOn_96 : decode cX12_goesOn 96 = .ok (.aload_n 0, 1) := by decide +kernel
theorem dX12_goesOn_97 : decode cX12_goesOn 97 = .ok (.getfield 235, 3) := by decide +kernel
theorem dX12_goesOn_100 : decode cX12_goesOn 100 = .ok (.iaload, 1) := by decide +kernel
theorem dX12_goesOn_101 : decode cX12_goesOn 101 = .ok (.bipush 23, 2) := by decide +kernel
theorem dX12_goesOn_103 : decode cX12_goesOn 103 = .ok (.if_icmp .ne 7, 3) := by decide +kernel
theorem dX12_goesOn_106 : decode cX12_goesOn 106 = .ok (.iconst 5, 1) := by decide +kernel
theorem dX12_goesOn_107 : decode cX12_goesOn 107 = .ok (.goto 5, 3) := by decide +kernel
theorem dX12_goesOn_110 : decode cX12_goesOn 110 = .ok (.bipush 6, 2) := by decide +kernel
theorem dX12_goesOn_112 : decode cX12_goesOn 112 = .ok (.invokevirtual 238, 3) := by decide +kernel
theorem dX12_goesOn_115 : decode cX12_goesOn 115 = .ok (.goto (-115), 3) := by decide +kernel
theorem dX12_goesOn_118 : decode cX12_goesOn 118 = .ok (.aload_n 0, 1) := by decide +kernel
theorem dX12_goesOn_119 : decode cX12_goesOn 119 = .ok (.bipush 42, 2) := by decide +kernel
theorem dX12_goesOn_121 : decode cX12_goesOn 121 = .ok (.invokevirtual 200, 3) := by decide +kernel
theorem dX12_goesOn_124 : decode cX12_goesOn 124 = .ok (.ifCond .ne 12, 3) := by decide +kernel
theorem dX12_goesOn_127 : decode cX12_goesOn 127 = .ok (.aload_n 0, 1) := by decide +kernel
theorem dX12_goesOn_128 : decode cX12_goesOn 128 = .ok (.bipush 47, 2) := by decide +kernel
theorem dX12_goesOn_130 : decode cX12_goesOn 130 = .ok (.invokevirtual 200, 3) := by decide +kernel
theorem dX12_goesOn_133 : decode cX12_goesOn 133 = .ok (.ifCond .eq 70, 3) := by decide +kernel
theorem dX12_goesOn_136 : decode cX12_goesOn 136 = .ok (.aload_n 0, 1) := by decide +kernel
theorem dX12_goesOn_137 : decode cX12_goesOn 137 = .ok (.getfield 7, 3) := by decide +kernel
theorem dX12_goesOn_140 : decode cX12_goesOn 140 = .ok (.aload_n 0, 1) := by decide +kernel
theorem dX12_goesOn_141 : decode cX12_goesOn 141 = .ok (.getfield 172, 3) := by decide +kernel
theorem dX12_goesOn_144 : decode cX12_goesOn 144 = .ok (.iconst 1, 1) := by decide +kernel
theorem dX12_goesOn_145 : decode cX12_goesOn 145 = .ok (.isub, 1) := by decide +kernel
theorem dX12_goesOn_146 : decode cX12_goesOn 146 = .ok (.iaload, 1) := by decide +kernel
theorem dX12_goesOn_147 : decode cX12_goesOn 147 = .ok (.bipush 42, 2) := by decide +kernel
theorem dX12_goesOn_149 : decode cX12_goesOn 149 = .ok (.if_icmp .ne 7, 3) := by decide +kernel
theorem dX12_goesOn_152 : decode cX12_goesOn 152 = .ok (.iconst 3, 1) := by decide +kernel
theorem dX12_goesOn_153 : decode cX12_goesOn 153 = .ok (.goto 4, 3) := by decide +kernel
theorem dX12_goesOn_156 : decode cX12_goesOn 156 = .ok (.iconst 4, 1) := by decide +kernel
theorem dX12_goesOn_157 : decode cX12_goesOn 157 = .ok (.istore_n 1, 1) := by decide +kernel
theorem dX12_goesOn_158 : decode cX12_goesOn 158 = .ok (.aload_n 0, 1) := by decide +kernel
theorem dX12_goesOn_159 : decode cX12_goesOn 159 = .ok (.iconst 3, 1) := by decide +kernel
theorem dX12_goesOn_160 : decode cX12_goesOn 160 = .ok (.invokevirtual 271, 3) := by decide +kernel
theorem dX12_goesOn_163 : decode cX12_goesOn 163 = .ok (.ifCond .ne 11, 3) := by decide +kernel
theorem dX12_goesOn_166 : decode cX12_goesOn 166 = .ok (.aload_n 0, 1) := by decide +kernel
theorem dX12_goesOn_167 : decode cX12_goesOn 167 = .ok (.iconst 4, 1) := by decide +kernel
theorem dX12_goesOn_168 : decode cX12_goesOn 168 = .ok (.invokevirtual 271, 3) := by decide +kernel
theorem dX12_goesOn_171 : decode cX12_goesOn 171 = .ok (.ifCond .eq 10, 3) := by decide +kernel
theorem dX12_goesOn_174 : decode cX12_goesOn 174 = .ok (.aload_n 0, 1) := by decide +kernel
theorem dX12_goesOn_175 : decode cX12_goesOn 175 = .ok (.invokevirtual 248, 3) := by decide +kernel
theorem dX12_goesOn_178 : decode cX12_goesOn 178 = .ok (.goto (-20), 3) := by decide +kernel
theorem dX12_goesOn_181 : decode cX12_goesOn 181 = .ok (.aload_n 0, 1) := by decide +kernel
theorem dX12_goesOn_182 : decode cX12_goesOn 182 = .ok (.getfield 112, 3) := by decide +kernel
theorem dX12_goesOn_185 : decode cX12_goesOn 185 = .ok (.aload_n 0, 1) := by decide +kernel
theorem dX12_goesOn_186 : decode cX12_goesOn 186 = .ok (.getfield 235, 3) := by decide +kernel
theorem dX12_goesOn_189 : decode cX12_goesOn 189 = .ok (.iload_n 1, 1) := by decide +kernel
theorem dX12_goesOn_190 : decode cX12_goesOn 190 = .ok (.iastore, 1) := by decide +kernel
theorem dX12_goesOn_191 : decode cX12_goesOn 191 = .ok (.aload_n 0, 1) := by decide +kernel
theorem dX12_goesOn_192 : decode cX12_goesOn 192 = .ok (.dup, 1) := by decide +kernel
theorem dX12_goesOn_193 : decode cX12_goesOn 193 = .ok (.getfield 235, 3) := by decide +kernel
theorem dX12_goesOn_196 : decode cX12_goesOn 196 = .ok (.iconst 1, 1) := by decide +kernel
theorem dX12_goesOn_197 : decode cX12_goesOn 197 = .ok (.iadd, 1) := by decide +kernel
theorem dX12_goesOn_198 : decode cX12_goesOn 198 = .ok (.putfield 235, 3) := by decide +kernel
theorem dX12_goesOn_201 : decode cX12_goesOn 201 = .ok (.iconst 1, 1) := by decide +kernel
theorem dX12_goesOn_202 : decode cX12_goesOn 202 = .ok (.ireturn, 1) := by decide +kernel
theorem dX12_goesOn_203 : decode cX12_goesOn 203 = .ok (.aload_n 0, 1) := by decide +kernel
theorem dX12_goesOn_204 : decode cX12_goesOn 204 = .ok (.bipush 43, 2) := by decide +kernel
theorem dX12_goesOn_206 : decode cX12_goesOn 206 = .ok (.invokevirtual 200, 3) := by decide +kernel
theorem dX12_goesOn_209 : decode cX12_goesOn 209 = .ok (.ifCond .ne 12, 3) := by decide +kernel
theorem dX12_goesOn_212 : decode cX12_goesOn 212 = .ok (.aload_n 0, 1) := by decide +kernel
theorem dX12_goesOn_213 : decode cX12_goesOn 213 = .ok (.bipush 45, 2) := by decide +kernel
theorem dX12_goesOn_215 : decode cX12_goesOn 215 = .ok (.invokevirtual 200, 3) := by decide +kernel
theorem dX12_goesOn_218 : decode cX12_goesOn 218 = .ok (.ifCond .eq 86, 3) := by decide +kernel
theorem dX12_goesOn_221 : decode cX12_goesOn 221 = .ok (.aload_n 0, 1) := by decide +kernel
theorem dX12_goesOn_222 : decode cX12_goesOn 222 = .ok (.getfield 7, 3) := by decide +kernel
theorem dX12_goesOn_225 : decode cX12_goesOn 225 = .ok (.aload_n 0, 1) := by decide +kernel
theorem dX12_goesOn_226 : decode cX12_goesOn 226 = .ok (.getfield 172, 3) := by decide +kernel
theorem dX12_goesOn_229 : decode cX12_goesOn 229 = .ok (.iconst 1, 1) := by decide +kernel
theorem dX12_goesOn_230 : decode cX12_goesOn 230 = .ok (.isub, 1) := by decide +kernel
theorem dX12_goesOn_231 : decode cX12_goesOn 231 = .ok (.iaload, 1) := by decide +kernel
theorem dX12_goesOn_232 : decode cX12_goesOn 232 = .ok (.bipush 43, 2) := by decide +kernel
theorem dX12_goesOn_234 : decode cX12_goesOn 234 = .ok (.if_icmp .ne 7, 3) := by decide +kernel
theorem dX12_goesOn_237 : decode cX12_goesOn 237 = .ok (.iconst 1, 1) := by decide +kernel
theorem dX12_goesOn_238 : decode cX12_goesOn 238 = .ok (.goto 4, 3) := by decide +kernel
theorem dX12_goesOn_241 : decode cX12_goesOn 241 = .ok (.iconst 2, 1) := by decide +kernel
theorem dX12_goesOn_242 : decode cX12_goesOn 242 = .ok (.istore_n 1, 1) := by decide +kernel
theorem dX12_goesOn_243 : decode cX12_goesOn 243 = .ok (.aload_n 0, 1) := by decide +kernel
theorem dX12_goesOn_244 : decode cX12_goesOn 244 = .ok (.iconst 3, 1) := by decide +kernel
theorem dX12_goesOn_245 : decode cX12_goesOn 245 = .ok (.invokevirtual 271, 3) := by decide +kernel
theorem dX12_goesOn_248 : decode cX12_goesOn 248 = .ok (.ifCond .ne 27, 3) := by decide +kernel
theorem dX12_goesOn_251 : decode cX12_goesOn 251 = .ok (.aload_n 0, 1) := by decide +kernel
theorem dX12_goesOn_252 : decode cX12_goesOn 252 = .ok (.iconst 4, 1) := by decide +kernel
theorem dX12_goesOn_253 : decode cX12_goesOn 253 = .ok (.invokevirtual 271, 3) := by decide +kernel
theorem dX12_goesOn_256 : decode cX12_goesOn 256 = .ok (.ifCond .ne 19, 3) := by decide +kernel
theorem dX12_goesOn_259 : decode cX12_goesOn 259 = .ok (.aload_n 0, 1) := by decide +kernel
theorem dX12_goesOn_260 : decode cX12_goesOn 260 = .ok (.iconst 1, 1) := by decide +kernel
theorem dX12_goesOn_261 : decode cX12_goesOn 261 = .ok (.invokevirtual 271, 3) := by decide +kernel
theorem dX12_goesOn_264 : decode cX12_goesOn 264 = .ok (.ifCond .ne 11, 3) := by decide +kernel
theorem dX12_goesOn_267 : decode cX12_goesOn 267 = .ok (.aload_n 0, 1) := by decide +kernel
theorem dX12_goesOn_268 : decode cX12_goesOn 268 = .ok (.iconst 2, 1) := by decide +kernel
theorem dX12_goesOn_269 : decode cX12_goesOn 269 = .ok (.invokevirtual 271, 3) := by decide +kernel
theorem dX12_goesOn_272 : decode cX12_goesOn 272 = .ok (.ifCond .eq 10, 3) := by decide +kernel
theorem dX12_goesOn_275 : decode cX12_goesOn 275 = .ok (.aload_n 0, 1) := by decide +kernel
theorem dX12_goesOn_276 : decode cX12_goesOn 276 = .ok (.invokevirtual 248, 3) := by decide +kernel
theorem dX12_goesOn_279 : decode cX12_goesOn 279 = .ok (.goto (-36), 3) := by decide +kernel
theorem dX12_goesOn_282 : decode cX12_goesOn 282 = .ok (.aload_n 0, 1) := by decide +kernel
theorem dX12_goesOn_283 : decode cX12_goesOn 283 = .ok (.getfield 112, 3) := by decide +kernel
theorem dX12_goesOn_286 : decode cX12_goesOn 286 = .ok (.aload_n 0, 1) := by decide +kernel
theorem dX12_goesOn_287 : decode cX12_goesOn 287 = .ok (.getfield 235, 3) := by decide +kernel
theorem dX12_goesOn_290 : decode cX12_goesOn 290 = .ok (.iload_n 1, 1) := by decide +kernel
theorem dX12_goesOn_291 : decode cX12_goesOn 291 = .ok (.iastore, 1) := by decide +kernel
theorem dX12_goesOn_292 : decode cX12_goesOn 292 = .ok (.aload_n 0, 1) := by decide +kernel
theorem dX12_goesOn_293 : decode cX12_goesOn 293 = .ok (.dup, 1) := by decide +kernel
theorem dX12_goesOn_294 : decode cX12_goesOn 294 = .ok (.getfield 235, 3) := by decide +kernel
theorem dX12_goesOn_297 : decode cX12_goesOn 297 = .ok (.iconst 1, 1) := by decide +kernel
theorem dX12_goesOn_298 : decode cX12_goesOn 298 = .ok (.iadd, 1) := by decide +kernel
theorem dX12_goesOn_299 : decode cX12_goesOn 299 = .ok (.putfield 235, 3) := by decide +kernel
theorem dX12_goesOn_302 : decode cX12_goesOn 302 = .ok (.iconst 1, 1) := by decide +kernel
theorem dX12_goesOn_303 : decode cX12_goesOn 303 = .ok (.ireturn, 1) := by decide +kernel
theorem dX12_goesOn_304 : decode cX12_goesOn 304 = .ok (.aload_n 0, 1) := by decide +kernel
theorem dX12_goesOn_305 : decode cX12_goesOn 305 = .ok (.invokevirtual 265, 3) := by decide +kernel
theorem dX12_goesOn_308 : decode cX12_goesOn 308 = .ok (.bipush 21, 2) := by decide +kernel
theorem dX12_goesOn_310 : decode cX12_goesOn 310 = .ok (.if_icmp .eq 12, 3) := by decide +kernel
theorem dX12_goesOn_313 : decode cX12_goesOn 313 = .ok (.aload_n 0, 1) := by decide +kernel
theorem dX12_goesOn_314 : decode cX12_goesOn 314 = .ok (.invokevirtual 265, 3) := by decide +kernel
theorem dX12_goesOn_317 : decode cX12_goesOn 317 = .ok (.bipush 22, 2) := by decide +kernel
theorem dX12_goesOn_319 : decode cX12_goesOn 319 = .ok (.if_icmp .ne 39, 3) := by decide +kernel
theorem dX12_goesOn_322 : decode cX12_goesOn 322 = .ok (.aload_n 0, 1) := by decide +kernel
theorem dX12_goesOn_323 : decode cX12_goesOn 323 = .ok (.bipush 44, 2) := by decide +kernel
theorem dX12_goesOn_325 : decode cX12_goesOn 325 = .ok (.invokevirtual 258, 3) := by decide +kernel
theorem dX12_goesOn_328 : decode cX12_goesOn 328 = .ok (.aload_n 0, 1) := by decide +kernel
theorem dX12_goesOn_329 : decode cX12_goesOn 329 = .ok (.getfield 166, 3) := by decide +kernel
theorem dX12_goesOn_332 : decode cX12_goesOn 332 = .ok (.ifCond .eq 5, 3) := by decide +kernel
theorem dX12_goesOn_335 : decode cX12_goesOn 335 = .ok (.iconst 0, 1) := by decide +kernel
theorem dX12_goesOn_336 : decode cX12_goesOn 336 = .ok (.ireturn, 1) := by decide +kernel
theorem dX12_goesOn_337 : decode cX12_goesOn 337 = .ok (.aload_n 0, 1) := by decide +kernel
theorem dX12_goesOn_338 : decode cX12_goesOn 338 = .ok (.invokevirtual 268, 3) := by decide +kernel
theorem dX12_goesOn_341 : decode cX12_goesOn 341 = .ok (.aload_n 0, 1) := by decide +kernel
theorem dX12_goesOn_342 : decode cX12_goesOn 342 = .ok (.getfield 112, 3) := by decide +kernel
theorem dX12_goesOn_345 : decode cX12_goesOn 345 = .ok (.aload_n 0, 1) := by decide +kernel
theorem dX12_goesOn_346 : decode cX12_goesOn 346 = .ok (.getfield 235, 3) := by decide +kernel
theorem dX12_goesOn_349 : decode cX12_goesOn 349 = .ok (.iconst 1, 1) := by decide +kernel
theorem dX12_goesOn_350 : decode cX12_goesOn 350 = .ok (.isub, 1) := by decide +kernel
theorem dX12_goesOn_351 : decode cX12_goesOn 351 = .ok (.dup2, 1) := by decide +kernel
theorem dX12_goesOn_352 : decode cX12_goesOn 352 = .ok (.iaload, 1) := by decide +kernel
theorem dX12_goesOn_353 : decode cX12_goesOn 353 = .ok (.iconst 2, 1) := by decide +kernel
theorem dX12_goesOn_354 : decode cX12_goesOn 354 = .ok (.iadd, 1) := by decide +kernel
theorem dX12_goesOn_355 : decode cX12_goesOn 355 = .ok (.iastore, 1) := by decide +kernel
theorem dX12_goesOn_356 : decode cX12_goesOn 356 = .ok (.iconst 1, 1) := by decide +kernel
theorem dX12_goesOn_357 : decode cX12_goesOn 357 = .ok (.ireturn, 1) := by decide +kernel
theorem dX12_goesOn_358 : decode cX12_goesOn 358 = .ok (.aload_n 0, 1) := by decide +kernel
theorem dX12_goesOn_359 : decode cX12_goesOn 359 = .ok (.invokevirtual 265, 3) := by decide +kernel
theorem dX12_goesOn_362 : decode cX12_goesOn 362 = .ok (.iconst (-1), 1) := by decide +kernel
theorem dX12_goesOn_363 : decode cX12_goesOn 363 = .ok (.if_icmp .eq 19, 3) := by decide +kernel
theorem dX12_goesOn_366 : decode cX12_goesOn 366 = .ok (.aload_n 0, 1) := by decide +kernel
theorem dX12_goesOn_367 : decode cX12_goesOn 367 = .ok (.getfield 166, 3) := by decide +kernel
theorem dX12_goesOn_370 : decode cX12_goesOn 370 = .ok (.ifCond .ne 12, 3) := by decide +kernel
theorem dX12_goesOn_373 : decode cX12_goesOn 373 = .ok (.aload_n 0, 1) := by decide +kernel
theorem dX12_goesOn_374 : decode cX12_goesOn 374 = .ok (.iconst 1, 1) := by decide +kernel
theorem dX12_goesOn_375 : decode cX12_goesOn 375 = .ok (.aload_n 0, 1) := by decide +kernel
theorem dX12_goesOn_376 : decode cX12_goesOn 376 = .ok (.getfield 172, 3) := by decide +kernel
theorem dX12_goesOn_379 : decode cX12_goesOn 379 = .ok (.invokevirtual 196, 3) := by decide +kernel
theorem dX12_goesOn_382 : decode cX12_goesOn 382 = .ok (.iconst 0, 1) := by decide +kernel
theorem dX12_goesOn_383 : decode cX12_goesOn 383 = .ok (.ireturn, 1) := by decide +kernel
theorem dX12_sums_0 : decode cX12_sums 0 = .ok (.aload_n 0, 1) := by decide +kernel
theorem dX12_sums_1 : decode cX12_sums 1 = .ok (.getfield 242, 3) := by decide +kernel
theorem dX12_sums_4 : decode cX12_sums 4 = .ok (.istore_n 1, 1) := by decide +kernel
theorem dX12_sums_5 : decode cX12_sums 5 = .ok (.aload_n 0, 1) := by decide +kernel
theorem dX12_sums_6 : decode cX12_sums 6 = .ok (.aload_n 0, 1) := by decide +kernel
theorem dX12_sums_7 : decode cX12_sums 7 = .ok (.getfield 235, 3) := by decide +kernel
theorem dX12_sums_10 : decode cX12_sums 10 = .ok (.putfield 242, 3) := by decide +kernel
theorem dX12_sums_13 : decode cX12_sums 13 = .ok (.iconst 1, 1) := by decide +kernel
theorem dX12_sums_14 : decode cX12_sums 14 = .ok (.istore_n 2, 1) := by decide +kernel
theorem dX12_sums_15 : decode cX12_sums 15 = .ok (.iload_n 2, 1) := by decide +kernel
theorem dX12_sums_16 : decode cX12_sums 16 = .ok (.ifCond .eq 37, 3) := by decide +kernel
theorem dX12_sums_19 : decode cX12_sums 19 = .ok (.aload_n 0, 1) := by decide +kernel
theorem dX12_sums_20 : decode cX12_sums 20 = .ok (.getfield 166, 3) := by decide +kernel
theorem dX12_sums_23 : decode cX12_sums 23 = .ok (.ifCond .ne 30, 3) := by decide +kernel
theorem dX12_sums_26 : decode cX12_sums 26 = .ok (.aload_n 0, 1) := by decide +kernel
theorem dX12_sums_27 : decode cX12_sums 27 = .ok (.invokevirtual 274, 3) := by decide +kernel
theorem dX12_sums_30 : decode cX12_sums 30 = .ok (.aload_n 0, 1) := by decide +kernel
theorem dX12_sums_31 : decode cX12_sums 31 = .ok (.getfield 166, 3) := by decide +kernel
theorem dX12_sums_34 : decode cX12_sums 34 = .ok (.ifCond .ne 14, 3) := by decide +kernel
theorem dX12_sums_37 : decode cX12_sums 37 = .ok (.aload_n 0, 1) := by decide +kernel
theorem dX12_sums_38 : decode cX12_sums 38 = .ok (.invokevirtual 277, 3) := by decide +kernel
theorem dX12_sums_41 : decode cX12_sums 41 = .ok (.ifCond .eq 7, 3) := by decide +kernel
theorem dX12_sums_44 : decode cX12_sums 44 = .ok (.iconst 1, 1) := by decide +kernel
theorem dX12_sums_45 : decode cX12_sums 45 = .ok (.goto 4, 3) := by decide +kernel
theorem dX12_sums_48 : decode cX12_sums 48 = .ok (.iconst 0, 1) := by decide +kernel
theorem dX12_sums_49 : decode cX12_sums 49 = .ok (.istore_n 2, 1) := by decide +kernel
theorem dX12_sums_50 : decode cX12_sums 50 = .ok (.goto (-35), 3) := by decide +kernel
theorem dX12_sums_53 : decode cX12_sums 53 = .ok (.aload_n 0, 1) := by decide +kernel
theorem dX12_sums_54 : decode cX12_sums 54 = .ok (.getfield 166, 3) := by decide +kernel
theorem dX12_sums_57 : decode cX12_sums 57 = .ok (.ifCond .ne 21, 3) := by decide +kernel
theorem dX12_sums_60 : decode cX12_sums 60 = .ok (.aload_n 0, 1) := by decide +kernel
theorem dX12_sums_61 : decode cX12_sums 61 = .ok (.getfield 235, 3) := by decide +kernel
theorem dX12_sums_64 : decode cX12_sums 64 = .ok (.aload_n 0, 1) := by decide +kernel
theorem dX12_sums_65 : decode cX12_sums 65 = .ok (.getfield 242, 3) := by decide +kernel
theorem dX12_sums_68 : decode cX12_sums 68 = .ok (.if_icmp .le 10, 3) := by decide +kernel
theorem dX12_sums_71 : decode cX12_sums 71 = .ok (.aload_n 0, 1) := by decide +kernel
theorem dX12_sums_72 : decode cX12_sums 72 = .ok (.invokevirtual 248, 3) := by decide +kernel
theorem dX12_sums_75 : decode cX12_sums 75 = .ok (.goto (-22), 3) := by decide +kernel
theorem dX12_sums_78 : decode cX12_sums 78 = .ok (.aload_n 0, 1) := by decide +kernel
theorem dX12_sums_79 : decode cX12_sums 79 = .ok (.iload_n 1, 1) := by decide +kernel
theorem dX12_sums_80 : decode cX12_sums 80 = .ok (.putfield 242, 3) := by decide +kernel
theorem dX12_sums_83 : decode cX12_sums 83 = .ok (.return_, 1) := by decide +kernel
theorem dX12_fact_0 : decode cX12_fact 0 = .ok (.aload_n 0, 1) := by decide +kernel
theorem dX12_fact_1 : decode cX12_fact 1 = .ok (.aload_n 0, 1) := by decide +kernel
theorem dX12_fact_2 : decode cX12_fact 2 = .ok (.getfield 48, 3) := by decide +kernel
theorem dX12_fact_5 : decode cX12_fact 5 = .ok (.invokevirtual 193, 3) := by decide +kernel
theorem dX12_fact_8 : decode cX12_fact 8 = .ok (.ifCond .eq 10, 3) := by decide +kernel
theorem dX12_fact_11 : decode cX12_fact 11 = .ok (.aload_n 0, 1) := by decide +kernel
theorem dX12_fact_12 : decode cX12_fact 12 = .ok (.bipush 17, 2) := by decide +kernel
theorem dX12_fact_14 : decode cX12_fact 14 = .ok (.invokevirtual 238, 3) := by decide +kernel
theorem dX12_fact_17 : decode cX12_fact 17 = .ok (.return_, 1) := by decide +kernel
theorem dX12_fact_18 : decode cX12_fact 18 = .ok (.aload_n 0, 1) := by decide +kernel
theorem dX12_fact_19 : decode cX12_fact 19 = .ok (.aload_n 0, 1) := by decide +kernel
theorem dX12_fact_20 : decode cX12_fact 20 = .ok (.getfield 51, 3) := by decide +kernel
theorem dX12_fact_23 : decode cX12_fact 23 = .ok (.invokevirtual 193, 3) := by decide +kernel
theorem dX12_fact_26 : decode cX12_fact 26 = .ok (.ifCond .eq 16, 3) := by decide +kernel
theorem dX12_fact_29 : decode cX12_fact 29 = .ok (.aload_n 0, 1) := by decide +kernel
theorem dX12_fact_30 : decode cX12_fact 30 = .ok (.bipush 100, 2) := by decide +kernel
theorem dX12_fact_32 : decode cX12_fact 32 = .ok (.aload_n 0, 1) := by decide +kernel
theorem dX12_fact_33 : decode cX12_fact 33 = .ok (.iconst (-1), 1) := by decide +kernel
theorem dX12_fact_34 : decode cX12_fact 34 = .ok (.invokevirtual 280, 3) := by decide +kernel
theorem dX12_fact_37 : decode cX12_fact 37 = .ok (.iadd, 1) := by decide +kernel
theorem dX12_fact_38 : decode cX12_fact 38 = .ok (.invokevirtual 238, 3) := by decide +kernel
theorem dX12_fact_41 : decode cX12_fact 41 = .ok (.return_, 1) := by decide +kernel
theorem dX12_fact_42 : decode cX12_fact 42 = .ok (.aload_n 0, 1) := by decide +kernel
theorem dX12_fact_43 : decode cX12_fact 43 = .ok (.invokevirtual 284, 3) := by decide +kernel
theorem dX12_fact_46 : decode cX12_fact 46 = .ok (.aload_n 0, 1) := by decide +kernel
theorem dX12_fact_47 : decode cX12_fact 47 = .ok (.getfield 166, 3) := by decide +kernel
theorem dX12_fact_50 : decode cX12_fact 50 = .ok (.ifCond .eq 4, 3) := by decide +kernel
theorem dX12_fact_53 : decode cX12_fact 53 = .ok (.return_, 1) := by decide +kernel
theorem dX12_fact_54 : decode cX12_fact 54 = .ok (.aload_n 0, 1) := by decide +kernel
theorem dX12_fact_55 : decode cX12_fact 55 = .ok (.invokevirtual 178, 3) := by decide +kernel
theorem dX12_fact_58 : decode cX12_fact 58 = .ok (.istore_n 1, 1) := by decide +kernel
theorem dX12_fact_59 : decode cX12_fact 59 = .ok (.iload_n 1, 1) := by decide +kernel
theorem dX12_fact_60 : decode cX12_fact 60 = .ok (.bipush 60, 2) := by decide +kernel
theorem dX12_fact_62 : decode cX12_fact 62 = .ok (.if_icmp .eq 25, 3) := by decide +kernel
theorem dX12_fact_65 : decode cX12_fact 65 = .ok (.iload_n 1, 1) := by decide +kernel
theorem dX12_fact_66 : decode cX12_fact 66 = .ok (.bipush 62, 2) := by decide +kernel
theorem dX12_fact_68 : decode cX12_fact 68 = .ok (.if_icmp .eq 19, 3) := by decide +kernel
theorem dX12_fact_71 : decode cX12_fact 71 = .ok (.iload_n 1, 1) := by decide +kernel
theorem dX12_fact_72 : decode cX12_fact 72 = .ok (.bipush 61, 2) := by decide +kernel
theorem dX12_fact_74 : decode cX12_fact 74 = .ok (.if_icmp .eq 13, 3) := by decide +kernel
theorem dX12_fact_77 : decode cX12_fact 77 = .ok (.aload_n 0, 1) := by decide +kernel
theorem dX12_fact_78 : decode cX12_fact 78 = .ok (.iconst 1, 1) := by decide +kernel
theorem dX12_fact_79 : decode cX12_fact 79 = .ok (.aload_n 0, 1) := by decide +kernel
theorem dX12_fact_80 : decode cX12_fact 80 = .ok (.getfield 172, 3) := by decide +kernel
theorem dX12_fact_83 : decode cX12_fact 83 = .ok (.invokevirtual 196, 3) := by decide +kernel
theorem dX12_fact_86 : decode cX12_fact 86 = .ok (.return_, 1) := by decide +kernel
theorem dX12_fact_87 : decode cX12_fact 87 = .ok (.aload_n 0, 1) := by decide +kernel
theorem dX12_fact_88 : decode cX12_fact 88 = .ok (.dup, 1) := by decide +kernel
theorem dX12_fact_89 : decode cX12_fact 89 = .ok (.getfield 172, 3) := by decide +kernel
theorem dX12_fact_92 : decode cX12_fact 92 = .ok (.iconst 1, 1) := by decide +kernel
theorem dX12_fact_93 : decode cX12_fact 93 = .ok (.iadd, 1) := by decide +kernel
theorem dX12_fact_94 : decode cX12_fact 94 = .ok (.putfield 172, 3) := by decide +kernel
theorem dX12_fact_97 : decode cX12_fact 97 = .ok (.aload_n 0, 1) := by decide +kernel
theorem dX12_fact_98 : decode cX12_fact 98 = .ok (.invokevirtual 284, 3) := by decide +kernel
theorem dX12_fact_101 : decode cX12_fact 101 = .ok (.aload_n 0, 1) := by decide +kernel
theorem dX12_fact_102 : decode cX12_fact 102 = .ok (.iload_n 1, 1) := by decide +kernel
theorem dX12_fact_103 : decode cX12_fact 103 = .ok (.bipush 60, 2) := by decide +kernel
theorem dX12_fact_105 : decode cX12_fact 105 = .ok (.if_icmp .ne 8, 3) := by decide +kernel
theorem dX12_fact_108 : decode cX12_fact 108 = .ok (.bipush 11, 2) := by decide +kernel
theorem dX12_fact_110 : decode cX12_fact 110 = .ok (.goto 16, 3) := by decide +kernel
theorem dX12_fact_113 : decode cX12_fact 113 = .ok (.iload_n 1, 1) := by decide +kernel
theorem dX12_fact_114 : decode cX12_fact 114 = .ok (.bipush 62, 2) := by decide +kernel
theorem dX12_fact_116 : decode cX12_fact 116 = .ok (.if_icmp .ne 8, 3) := by decide +kernel
theorem dX12_fact_119 : decode cX12_fact 119 = .ok (.bipush 12, 2) := by decide +kernel
theorem dX12_fact_121 : decode cX12_fact 121 = .ok (.goto 5, 3) := by decide +kernel
theorem dX12_fact_124 : decode cX12_fact 124 = .ok (.bipush 13, 2) := by decide +kernel
theorem dX12_fact_126 : decode cX12_fact 126 = .ok (.invokevirtual 238, 3) := by decide +kernel
theorem dX12_fact_129 : decode cX12_fact 129 = .ok (.return_, 1) := by decide +kernel
theorem dX12_hasSquare_0 : decode cX12_hasSquare 0 = .ok (.iconst 0, 1) := by decide +kernel
theorem dX12_hasSquare_1 : decode cX12_hasSquare 1 = .ok (.istore_n 1, 1) := by decide +kernel
theorem dX12_hasSquare_2 : decode cX12_hasSquare 2 = .ok (.iload_n 1, 1) := by decide +kernel
theorem dX12_hasSquare_3 : decode cX12_hasSquare 3 = .ok (.aload_n 0, 1) := by decide +kernel
theorem dX12_hasSquare_4 : decode cX12_hasSquare 4 = .ok (.getfield 235, 3) := by decide +kernel
theorem dX12_hasSquare_7 : decode cX12_hasSquare 7 = .ok (.if_icmp .ge 22, 3) := by decide +kernel
theorem dX12_hasSquare_10 : decode cX12_hasSquare 10 = .ok (.aload_n 0, 1) := by decide +kernel
theorem dX12_hasSquare_11 : decode cX12_hasSquare 11 = .ok (.getfield 112, 3) := by decide +kernel
theorem dX12_hasSquare_14 : decode cX12_hasSquare 14 = .ok (.iload_n 1, 1) := by decide +kernel
theorem dX12_hasSquare_15 : decode cX12_hasSquare 15 = .ok (.iaload, 1) := by decide +kernel
theorem dX12_hasSquare_16 : decode cX12_hasSquare 16 = .ok (.bipush 25, 2) := by decide +kernel
theorem dX12_hasSquare_18 : decode cX12_hasSquare 18 = .ok (.if_icmp .ne 5, 3) := by decide +kernel
theorem dX12_hasSquare_21 : decode cX12_hasSquare 21 = .ok (.iconst 1, 1) := by decide +kernel
theorem dX12_hasSquare_22 : decode cX12_hasSquare 22 = .ok (.ireturn, 1) := by decide +kernel
theorem dX12_hasSquare_23 : decode cX12_hasSquare 23 = .ok (.iinc 1 1, 3) := by decide +kernel
theorem dX12_hasSquare_26 : decode cX12_hasSquare 26 = .ok (.goto (-24), 3) := by decide +kernel
theorem dX12_hasSquare_29 : decode cX12_hasSquare 29 = .ok (.iconst 0, 1) := by decide +kernel
theorem dX12_hasSquare_30 : decode cX12_hasSquare 30 = .ok (.ireturn, 1) := by decide +kernel
theorem dX12_dropsNots_0 : decode cX12_dropsNots 0 = .ok (.aload_n 0, 1) := by decide +kernel
theorem dX12_dropsNots_1 : decode cX12_dropsNots 1 = .ok (.getfield 166, 3) := by decide +kernel
theorem dX12_dropsNots_4 : decode cX12_dropsNots 4 = .ok (.ifCond .ne 29, 3) := by decide +kernel
theorem dX12_dropsNots_7 : decode cX12_dropsNots 7 = .ok (.aload_n 0, 1) := by decide +kernel
theorem dX12_dropsNots_8 : decode cX12_dropsNots 8 = .ok (.bipush 16, 2) := by decide +kernel
theorem dX12_dropsNots_10 : decode cX12_dropsNots 10 = .ok (.invokevirtual 271, 3) := by decide +kernel
theorem dX12_dropsNots_13 : decode cX12_dropsNots 13 = .ok (.ifCond .eq 20, 3) := by decide +kernel
theorem dX12_dropsNots_16 : decode cX12_dropsNots 16 = .ok (.aload_n 0, 1) := by decide +kernel
theorem dX12_dropsNots_17 : decode cX12_dropsNots 17 = .ok (.dup, 1) := by decide +kernel
theorem dX12_dropsNots_18 : decode cX12_dropsNots 18 = .ok (.getfield 232, 3) := by decide +kernel
theorem dX12_dropsNots_21 : decode cX12_dropsNots 21 = .ok (.iconst 1, 1) := by decide +kernel
theorem dX12_dropsNots_22 : decode cX12_dropsNots 22 = .ok (.isub, 1) := by decide +kernel
theorem dX12_dropsNots_23 : decode cX12_dropsNots 23 = .ok (.putfield 232, 3) := by decide +kernel
theorem dX12_dropsNots_26 : decode cX12_dropsNots 26 = .ok (.aload_n 0, 1) := by decide +kernel
theorem dX12_dropsNots_27 : decode cX12_dropsNots 27 = .ok (.invokevirtual 248, 3) := by decide +kernel
theorem dX12_dropsNots_30 : decode cX12_dropsNots 30 = .ok (.goto (-30), 3) := by decide +kernel
theorem dX12_dropsNots_33 : decode cX12_dropsNots 33 = .ok (.return_, 1) := by decide +kernel
theorem dX12_test_0 : decode cX12_test 0 = .ok (.iconst 1, 1) := by decide +kernel
theorem dX12_test_1 : decode cX12_test 1 = .ok (.istore_n 1, 1) := by decide +kernel
theorem dX12_test_2 : decode cX12_test 2 = .ok (.iload_n 1, 1) := by decide +kernel
theorem dX12_test_3 : decode cX12_test 3 = .ok (.ifCond .eq 107, 3) := by decide +kernel
theorem dX12_test_6 : decode cX12_test 6 = .ok (.aload_n 0, 1) := by decide +kernel
theorem dX12_test_7 : decode cX12_test 7 = .ok (.getfield 166, 3) := by decide +kernel
theorem dX12_test_10 : decode cX12_test 10 = .ok (.ifCond .ne 100, 3) := by decide +kernel
theorem dX12_test_13 : decode cX12_test 13 = .ok (.aload_n 0, 1) := by decide +kernel
theorem dX12_test_14 : decode cX12_test 14 = .ok (.invokevirtual 178, 3) := by decide +kernel
theorem dX12_test_17 : decode cX12_test 17 = .ok (.istore_n 2, 1) := by decide +kernel
theorem dX12_test_18 : decode cX12_test 18 = .ok (.iload_n 2, 1) := by decide +kernel
theorem dX12_test_19 : decode cX12_test 19 = .ok (.bipush 91, 2) := by decide +kernel
theorem dX12_test_21 : decode cX12_test 21 = .ok (.if_icmp .ne 26, 3) := by decide +kernel
theorem dX12_test_24 : decode cX12_test 24 = .ok (.aload_n 0, 1) := by decide +kernel
theorem dX12_test_25 : decode cX12_test 25 = .ok (.bipush 25, 2) := by decide +kernel
theorem dX12_test_27 : decode cX12_test 27 = .ok (.aload_n 0, 1) := by decide +kernel
theorem dX12_test_28 : decode cX12_test 28 = .ok (.getfield 172, 3) := by decide +kernel
theorem dX12_test_31 : decode cX12_test 31 = .ok (.invokevirtual 251, 3) := by decide +kernel
theorem dX12_test_34 : decode cX12_test 34 = .ok (.aload_n 0, 1) := by decide +kernel
theorem dX12_test_35 : decode cX12_test 35 = .ok (.dup, 1) := by decide +kernel
theorem dX12_test_36 : decode cX12_test 36 = .ok (.getfield 172, 3) := by decide +kernel
theorem dX12_test_39 : decode cX12_test 39 = .ok (.iconst 1, 1) := by decide +kernel
theorem dX12_test_40 : decode cX12_test 40 = .ok (.iadd, 1) := by decide +kernel
theorem dX12_test_41 : decode cX12_test 41 = .ok (.putfield 172, 3) := by decide +kernel
theorem dX12_test_44 : decode cX12_test 44 = .ok (.goto (-42), 3) := by decide +kernel
theorem dX12_test_47 : decode cX12_test 47 = .ok (.aload_n 0, 1) := by decide +kernel
theorem dX12_test_48 : decode cX12_test 48 = .ok (.aload_n 0, 1) := by decide +kernel
theorem dX12_test_49 : decode cX12_test 49 = .ok (.getfield 45, 3) := by decide +kernel
theorem dX12_test_52 : decode cX12_test 52 = .ok (.invokevirtual 189, 3) := by decide +kernel
theorem dX12_test_55 : decode cX12_test 55 = .ok (.ifCond .eq 24, 3) := by decide +kernel
theorem dX12_test_58 : decode cX12_test 58 = .ok (.aload_n 0, 1) := by decide +kernel
theorem dX12_test_59 : decode cX12_test 59 = .ok (.bipush 16, 2) := by decide +kernel
theorem dX12_test_61 : decode cX12_test 61 = .ok (.aload_n 0, 1) := by decide +kernel
theorem dX12_test_62 : decode cX12_test 62 = .ok (.getfield 172, 3) := by decide +kernel
theorem dX12_test_65 : decode cX12_test 65 = .ok (.invokevirtual 251, 3) := by decide +kernel
theorem dX12_test_68 : decode cX12_test 68 = .ok (.aload_n 0, 1) := by decide +kernel
theorem dX12_test_69 : decode cX12_test 69 = .ok (.aload_n 0, 1) := by decide +kernel
theorem dX12_test_70 : decode cX12_test 70 = .ok (.getfield 45, 3) := by decide +kernel
theorem dX12_test_73 : decode cX12_test 73 = .ok (.invokevirtual 254, 3) := by decide +kernel
theorem dX12_test_76 : decode cX12_test 76 = .ok (.goto (-74), 3) := by decide +kernel
theorem dX12_test_79 : decode cX12_test 79 = .ok (.aload_n 0, 1) := by decide +kernel
theorem dX12_test_80 : decode cX12_test 80 = .ok (.invokevirtual 287, 3) := by decide +kernel
theorem dX12_test_83 : decode cX12_test 83 = .ok (.aload_n 0, 1) := by decide +kernel
