theorem dX10_hasActed_13 : decode cX10_hasActed 13 = .ok (.iload 4, 2) := by decide +kernel
theorem dX10_hasActed_15 : decode cX10_hasActed 15 = .ok (.iload_n 2, 1) := by decide +kernel
theorem dX10_hasActed_16 : decode cX10_hasActed 16 = .ok (.if_icmp .ge 30, 3) := by decide +kernel
theorem dX10_hasActed_19 : decode cX10_hasActed 19 = .ok (.iload_n 3, 1) := by decide +kernel
theorem dX10_hasActed_20 : decode cX10_hasActed 20 = .ok (.ifCond .ne 14, 3) := by decide +kernel
theorem dX10_hasActed_23 : decode cX10_hasActed 23 = .ok (.aload_n 0, 1) := by decide +kernel
theorem dX10_hasActed_24 : decode cX10_hasActed 24 = .ok (.getfield 35, 3) := by decide +kernel
theorem dX10_hasActed_27 : decode cX10_hasActed 27 = .ok (.iload 4, 2) := by decide +kernel
theorem dX10_hasActed_29 : decode cX10_hasActed 29 = .ok (.iaload, 1) := by decide +kernel
theorem dX10_hasActed_30 : decode cX10_hasActed 30 = .ok (.iload_n 1, 1) := by decide +kernel
theorem dX10_hasActed_31 : decode cX10_hasActed 31 = .ok (.if_icmp .ne 7, 3) := by decide +kernel
theorem dX10_hasActed_34 : decode cX10_hasActed 34 = .ok (.iconst 1, 1) := by decide +kernel
theorem dX10_hasActed_35 : decode cX10_hasActed 35 = .ok (.goto 4, 3) := by decide +kernel
theorem dX10_hasActed_38 : decode cX10_hasActed 38 = .ok (.iconst 0, 1) := by decide +kernel
theorem dX10_hasActed_39 : decode cX10_hasActed 39 = .ok (.istore_n 3, 1) := by decide +kernel
theorem dX10_hasActed_40 : decode cX10_hasActed 40 = .ok (.iinc 4 1, 3) := by decide +kernel
theorem dX10_hasActed_43 : decode cX10_hasActed 43 = .ok (.goto (-30), 3) := by decide +kernel
theorem dX10_hasActed_46 : decode cX10_hasActed 46 = .ok (.iload_n 3, 1) := by decide +kernel
theorem dX10_hasActed_47 : decode cX10_hasActed 47 = .ok (.ireturn, 1) := by decide +kernel
theorem dX10_setOrder_0 : decode cX10_setOrder 0 = .ok (.iconst 0, 1) := by decide +kernel
theorem dX10_setOrder_1 : decode cX10_setOrder 1 = .ok (.istore_n 1, 1) := by decide +kernel
theorem dX10_setOrder_2 : decode cX10_setOrder 2 = .ok (.iconst 0, 1) := by decide +kernel
theorem dX10_setOrder_3 : decode cX10_setOrder 3 = .ok (.istore_n 2, 1) := by decide +kernel
theorem dX10_setOrder_4 : decode cX10_setOrder 4 = .ok (.iload_n 2, 1) := by decide +kernel
theorem dX10_setOrder_5 : decode cX10_setOrder 5 = .ok (.aload_n 0, 1) := by decide +kernel
theorem dX10_setOrder_6 : decode cX10_setOrder 6 = .ok (.getfield 68, 3) := by decide +kernel
theorem dX10_setOrder_9 : decode cX10_setOrder 9 = .ok (.if_icmp .ge 30, 3) := by decide +kernel
theorem dX10_setOrder_12 : decode cX10_setOrder 12 = .ok (.aload_n 0, 1) := by decide +kernel
theorem dX10_setOrder_13 : decode cX10_setOrder 13 = .ok (.getfield 17, 3) := by decide +kernel
theorem dX10_setOrder_16 : decode cX10_setOrder 16 = .ok (.iload_n 2, 1) := by decide +kernel
theorem dX10_setOrder_17 : decode cX10_setOrder 17 = .ok (.iaload, 1) := by decide +kernel
theorem dX10_setOrder_18 : decode cX10_setOrder 18 = .ok (.bipush 6, 2) := by decide +kernel
theorem dX10_setOrder_20 : decode cX10_setOrder 20 = .ok (.if_icmp .ne 13, 3) := by decide +kernel
theorem dX10_setOrder_23 : decode cX10_setOrder 23 = .ok (.aload_n 0, 1) := by decide +kernel
theorem dX10_setOrder_24 : decode cX10_setOrder 24 = .ok (.getfield 35, 3) := by decide +kernel
theorem dX10_setOrder_27 : decode cX10_setOrder 27 = .ok (.iload_n 1, 1) := by decide +kernel
theorem dX10_setOrder_28 : decode cX10_setOrder 28 = .ok (.iload_n 2, 1) := by decide +kernel
theorem dX10_setOrder_29 : decode cX10_setOrder 29 = .ok (.iastore, 1) := by decide +kernel
theorem dX10_setOrder_30 : decode cX10_setOrder 30 = .ok (.iinc 1 1, 3) := by decide +kernel
theorem dX10_setOrder_33 : decode cX10_setOrder 33 = .ok (.iinc 2 1, 3) := by decide +kernel
theorem dX10_setOrder_36 : decode cX10_setOrder 36 = .ok (.goto (-32), 3) := by decide +kernel
theorem dX10_setOrder_39 : decode cX10_setOrder 39 = .ok (.iload_n 1, 1) := by decide +kernel
theorem dX10_setOrder_40 : decode cX10_setOrder 40 = .ok (.aload_n 0, 1) := by decide +kernel
theorem dX10_setOrder_41 : decode cX10_setOrder 41 = .ok (.getfield 68, 3) := by decide +kernel
theorem dX10_setOrder_44 : decode cX10_setOrder 44 = .ok (.if_icmp .ge 120, 3) := by decide +kernel
theorem dX10_setOrder_47 : decode cX10_setOrder 47 = .ok (.iconst (-1), 1) := by decide +kernel
theorem dX10_setOrder_48 : decode cX10_setOrder 48 = .ok (.istore_n 2, 1) := by decide +kernel
theorem dX10_setOrder_49 : decode cX10_setOrder 49 = .ok (.aload_n 0, 1) := by decide +kernel
theorem dX10_setOrder_50 : decode cX10_setOrder 50 = .ok (.getfield 68, 3) := by decide +kernel
theorem dX10_setOrder_53 : decode cX10_setOrder 53 = .ok (.iconst 1, 1) := by decide +kernel
theorem dX10_setOrder_54 : decode cX10_setOrder 54 = .ok (.isub, 1) := by decide +kernel
theorem dX10_setOrder_55 : decode cX10_setOrder 55 = .ok (.istore_n 3, 1) := by decide +kernel
theorem dX10_setOrder_56 : decode cX10_setOrder 56 = .ok (.iload_n 3, 1) := by decide +kernel
theorem dX10_setOrder_57 : decode cX10_setOrder 57 = .ok (.ifCond .lt 94, 3) := by decide +kernel
theorem dX10_setOrder_60 : decode cX10_setOrder 60 = .ok (.aload_n 0, 1) := by decide +kernel
theorem dX10_setOrder_61 : decode cX10_setOrder 61 = .ok (.aload_n 0, 1) := by decide +kernel
theorem dX10_setOrder_62 : decode cX10_setOrder 62 = .ok (.getfield 26, 3) := by decide +kernel
theorem dX10_setOrder_65 : decode cX10_setOrder 65 = .ok (.iconst 3, 1) := by decide +kernel
theorem dX10_setOrder_66 : decode cX10_setOrder 66 = .ok (.iload_n 3, 1) := by decide +kernel
theorem dX10_setOrder_67 : decode cX10_setOrder 67 = .ok (.imul, 1) := by decide +kernel
theorem dX10_setOrder_68 : decode cX10_setOrder 68 = .ok (.iaload, 1) := by decide +kernel
theorem dX10_setOrder_69 : decode cX10_setOrder 69 = .ok (.iconst 1, 1) := by decide +kernel
theorem dX10_setOrder_70 : decode cX10_setOrder 70 = .ok (.isub, 1) := by decide +kernel
theorem dX10_setOrder_71 : decode cX10_setOrder 71 = .ok (.iload_n 1, 1) := by decide +kernel
theorem dX10_setOrder_72 : decode cX10_setOrder 72 = .ok (.invokevirtual 207, 3) := by decide +kernel
theorem dX10_setOrder_75 : decode cX10_setOrder 75 = .ok (.ifCond .eq 47, 3) := by decide +kernel
theorem dX10_setOrder_78 : decode cX10_setOrder 78 = .ok (.aload_n 0, 1) := by decide +kernel
theorem dX10_setOrder_79 : decode cX10_setOrder 79 = .ok (.aload_n 0, 1) := by decide +kernel
theorem dX10_setOrder_80 : decode cX10_setOrder 80 = .ok (.getfield 26, 3) := by decide +kernel
theorem dX10_setOrder_83 : decode cX10_setOrder 83 = .ok (.iconst 3, 1) := by decide +kernel
theorem dX10_setOrder_84 : decode cX10_setOrder 84 = .ok (.iload_n 3, 1) := by decide +kernel
theorem dX10_setOrder_85 : decode cX10_setOrder 85 = .ok (.imul, 1) := by decide +kernel
theorem dX10_setOrder_86 : decode cX10_setOrder 86 = .ok (.iconst 1, 1) := by decide +kernel
theorem dX10_setOrder_87 : decode cX10_setOrder 87 = .ok (.iadd, 1) := by decide +kernel
theorem dX10_setOrder_88 : decode cX10_setOrder 88 = .ok (.iaload, 1) := by decide +kernel
theorem dX10_setOrder_89 : decode cX10_setOrder 89 = .ok (.iconst 1, 1) := by decide +kernel
theorem dX10_setOrder_90 : decode cX10_setOrder 90 = .ok (.isub, 1) := by decide +kernel
theorem dX10_setOrder_91 : decode cX10_setOrder 91 = .ok (.iload_n 1, 1) := by decide +kernel
theorem dX10_setOrder_92 : decode cX10_setOrder 92 = .ok (.invokevirtual 207, 3) := by decide +kernel
theorem dX10_setOrder_95 : decode cX10_setOrder 95 = .ok (.ifCond .eq 27, 3) := by decide +kernel
theorem dX10_setOrder_98 : decode cX10_setOrder 98 = .ok (.aload_n 0, 1) := by decide +kernel
theorem dX10_setOrder_99 : decode cX10_setOrder 99 = .ok (.aload_n 0, 1) := by decide +kernel
theorem dX10_setOrder_100 : decode cX10_setOrder 100 = .ok (.getfield 26, 3) := by decide +kernel
theorem dX10_setOrder_103 : decode cX10_setOrder 103 = .ok (.iconst 3, 1) := by decide +kernel
theorem dX10_setOrder_104 : decode cX10_setOrder 104 = .ok (.iload_n 3, 1) := by decide +kernel
theorem dX10_setOrder_105 : decode cX10_setOrder 105 = .ok (.imul, 1) := by decide +kernel
theorem dX10_setOrder_106 : decode cX10_setOrder 106 = .ok (.iconst 2, 1) := by decide +kernel
theorem dX10_setOrder_107 : decode cX10_setOrder 107 = .ok (.iadd, 1) := by decide +kernel
theorem dX10_setOrder_108 : decode cX10_setOrder 108 = .ok (.iaload, 1) := by decide +kernel
theorem dX10_setOrder_109 : decode cX10_setOrder 109 = .ok (.iconst 1, 1) := by decide +kernel
theorem dX10_setOrder_110 : decode cX10_setOrder 110 = .ok (.isub, 1) := by decide +kernel
theorem dX10_setOrder_111 : decode cX10_setOrder 111 = .ok (.iload_n 1, 1) := by decide +kernel
theorem dX10_setOrder_112 : decode cX10_setOrder 112 = .ok (.invokevirtual 207, 3) := by decide +kernel
theorem dX10_setOrder_115 : decode cX10_setOrder 115 = .ok (.ifCond .eq 7, 3) := by decide +kernel
theorem dX10_setOrder_118 : decode cX10_setOrder 118 = .ok (.iconst 1, 1) := by decide +kernel
theorem dX10_setOrder_119 : decode cX10_setOrder 119 = .ok (.goto 4, 3) := by decide +kernel
theorem dX10_setOrder_122 : decode cX10_setOrder 122 = .ok (.iconst 0, 1) := by decide +kernel
theorem dX10_setOrder_123 : decode cX10_setOrder 123 = .ok (.istore 4, 2) := by decide +kernel
theorem dX10_setOrder_125 : decode cX10_setOrder 125 = .ok (.iload 4, 2) := by decide +kernel
theorem dX10_setOrder_127 : decode cX10_setOrder 127 = .ok (.ifCond .eq 16, 3) := by decide +kernel
theorem dX10_setOrder_130 : decode cX10_setOrder 130 = .ok (.aload_n 0, 1) := by decide +kernel
theorem dX10_setOrder_131 : decode cX10_setOrder 131 = .ok (.iload_n 3, 1) := by decide +kernel
theorem dX10_setOrder_132 : decode cX10_setOrder 132 = .ok (.iload_n 1, 1) := by decide +kernel
theorem dX10_setOrder_133 : decode cX10_setOrder 133 = .ok (.invokevirtual 207, 3) := by decide +kernel
theorem dX10_setOrder_136 : decode cX10_setOrder 136 = .ok (.ifCond .ne 7, 3) := by decide +kernel
theorem dX10_setOrder_139 : decode cX10_setOrder 139 = .ok (.iload_n 3, 1) := by decide +kernel
theorem dX10_setOrder_140 : decode cX10_setOrder 140 = .ok (.goto 4, 3) := by decide +kernel
theorem dX10_setOrder_143 : decode cX10_setOrder 143 = .ok (.iload_n 2, 1) := by decide +kernel
theorem dX10_setOrder_144 : decode cX10_setOrder 144 = .ok (.istore_n 2, 1) := by decide +kernel
theorem dX10_setOrder_145 : decode cX10_setOrder 145 = .ok (.iinc 3 (-1), 3) := by decide +kernel
theorem dX10_setOrder_148 : decode cX10_setOrder 148 = .ok (.goto (-92), 3) := by decide +kernel
theorem dX10_setOrder_151 : decode cX10_setOrder 151 = .ok (.aload_n 0, 1) := by decide +kernel
theorem dX10_setOrder_152 : decode cX10_setOrder 152 = .ok (.getfield 35, 3) := by decide +kernel
theorem dX10_setOrder_155 : decode cX10_setOrder 155 = .ok (.iload_n 1, 1) := by decide +kernel
theorem dX10_setOrder_156 : decode cX10_setOrder 156 = .ok (.iload_n 2, 1) := by decide +kernel
theorem dX10_setOrder_157 : decode cX10_setOrder 157 = .ok (.iastore, 1) := by decide +kernel
theorem dX10_setOrder_158 : decode cX10_setOrder 158 = .ok (.iinc 1 1, 3) := by decide +kernel
theorem dX10_setOrder_161 : decode cX10_setOrder 161 = .ok (.goto (-122), 3) := by decide +kernel
theorem dX10_setOrder_164 : decode cX10_setOrder 164 = .ok (.return_, 1) := by decide +kernel
theorem dX10_block_0 : decode cX10_block 0 = .ok (.iload_n 1, 1) := by decide +kernel
theorem dX10_block_1 : decode cX10_block 1 = .ok (.iconst 1, 1) := by decide +kernel
theorem dX10_block_2 : decode cX10_block 2 = .ok (.bipush 16, 2) := by decide +kernel
theorem dX10_block_4 : decode cX10_block 4 = .ok (.invokestatic 72, 3) := by decide +kernel
theorem dX10_block_7 : decode cX10_block 7 = .ok (.ifCond .ne 5, 3) := by decide +kernel
theorem dX10_block_10 : decode cX10_block 10 = .ok (.iconst (-1), 1) := by decide +kernel
theorem dX10_block_11 : decode cX10_block 11 = .ok (.ireturn, 1) := by decide +kernel
theorem dX10_block_12 : decode cX10_block 12 = .ok (.aload_n 0, 1) := by decide +kernel
theorem dX10_block_13 : decode cX10_block 13 = .ok (.iload_n 1, 1) := by decide +kernel
theorem dX10_block_14 : decode cX10_block 14 = .ok (.putfield 128, 3) := by decide +kernel
theorem dX10_block_17 : decode cX10_block 17 = .ok (.aload_n 0, 1) := by decide +kernel
theorem dX10_block_18 : decode cX10_block 18 = .ok (.iconst 0, 1) := by decide +kernel
theorem dX10_block_19 : decode cX10_block 19 = .ok (.putfield 94, 3) := by decide +kernel
theorem dX10_block_22 : decode cX10_block 22 = .ok (.aload_n 0, 1) := by decide +kernel
theorem dX10_block_23 : decode cX10_block 23 = .ok (.iconst 0, 1) := by decide +kernel
theorem dX10_block_24 : decode cX10_block 24 = .ok (.putfield 210, 3) := by decide +kernel
theorem dX10_block_27 : decode cX10_block 27 = .ok (.aload_n 0, 1) := by decide +kernel
theorem dX10_block_28 : decode cX10_block 28 = .ok (.iconst 0, 1) := by decide +kernel
theorem dX10_block_29 : decode cX10_block 29 = .ok (.bipush 9, 2) := by decide +kernel
theorem dX10_block_31 : decode cX10_block 31 = .ok (.invokevirtual 213, 3) := by decide +kernel
theorem dX10_block_34 : decode cX10_block 34 = .ok (.aload_n 0, 1) := by decide +kernel
theorem dX10_block_35 : decode cX10_block 35 = .ok (.invokevirtual 216, 3) := by decide +kernel
theorem dX10_block_38 : decode cX10_block 38 = .ok (.iconst 1, 1) := by decide +kernel
theorem dX10_block_39 : decode cX10_block 39 = .ok (.istore_n 2, 1) := by decide +kernel
theorem dX10_block_40 : decode cX10_block 40 = .ok (.iconst 0, 1) := by decide +kernel
theorem dX10_block_41 : decode cX10_block 41 = .ok (.istore_n 3, 1) := by decide +kernel
theorem dX10_block_42 : decode cX10_block 42 = .ok (.iload_n 3, 1) := by decide +kernel
theorem dX10_block_43 : decode cX10_block 43 = .ok (.aload_n 0, 1) := by decide +kernel
theorem dX10_block_44 : decode cX10_block 44 = .ok (.getfield 68, 3) := by decide +kernel
theorem dX10_block_47 : decode cX10_block 47 = .ok (.if_icmp .ge 51, 3) := by decide +kernel
theorem dX10_block_50 : decode cX10_block 50 = .ok (.iload_n 2, 1) := by decide +kernel
theorem dX10_block_51 : decode cX10_block 51 = .ok (.ifCond .eq 47, 3) := by decide +kernel
theorem dX10_block_54 : decode cX10_block 54 = .ok (.aload_n 0, 1) := by decide +kernel
theorem dX10_block_55 : decode cX10_block 55 = .ok (.getfield 38, 3) := by decide +kernel
theorem dX10_block_58 : decode cX10_block 58 = .ok (.aload_n 0, 1) := by decide +kernel
theorem dX10_block_59 : decode cX10_block 59 = .ok (.getfield 210, 3) := by decide +kernel
theorem dX10_block_62 : decode cX10_block 62 = .ok (.aload_n 0, 1) := by decide +kernel
theorem dX10_block_63 : decode cX10_block 63 = .ok (.getfield 35, 3) := by decide +kernel
theorem dX10_block_66 : decode cX10_block 66 = .ok (.iload_n 3, 1) := by decide +kernel
theorem dX10_block_67 : decode cX10_block 67 = .ok (.iaload, 1) := by decide +kernel
theorem dX10_block_68 : decode cX10_block 68 = .ok (.iconst 1, 1) := by decide +kernel
theorem dX10_block_69 : decode cX10_block 69 = .ok (.iadd, 1) := by decide +kernel
theorem dX10_block_70 : decode cX10_block 70 = .ok (.iastore, 1) := by decide +kernel
theorem dX10_block_71 : decode cX10_block 71 = .ok (.aload_n 0, 1) := by decide +kernel
theorem dX10_block_72 : decode cX10_block 72 = .ok (.dup, 1) := by decide +kernel
theorem dX10_block_73 : decode cX10_block 73 = .ok (.getfield 210, 3) := by decide +kernel
theorem dX10_block_76 : decode cX10_block 76 = .ok (.iconst 1, 1) := by decide +kernel
theorem dX10_block_77 : decode cX10_block 77 = .ok (.iadd, 1) := by decide +kernel
theorem dX10_block_78 : decode cX10_block 78 = .ok (.putfield 210, 3) := by decide +kernel
theorem dX10_block_81 : decode cX10_block 81 = .ok (.aload_n 0, 1) := by decide +kernel
theorem dX10_block_82 : decode cX10_block 82 = .ok (.aload_n 0, 1) := by decide +kernel
theorem dX10_block_83 : decode cX10_block 83 = .ok (.getfield 35, 3) := by decide +kernel
theorem dX10_block_86 : decode cX10_block 86 = .ok (.iload_n 3, 1) := by decide +kernel
theorem dX10_block_87 : decode cX10_block 87 = .ok (.iaload, 1) := by decide +kernel
theorem dX10_block_88 : decode cX10_block 88 = .ok (.invokevirtual 219, 3) := by decide +kernel
theorem dX10_block_91 : decode cX10_block 91 = .ok (.istore_n 2, 1) := by decide +kernel
theorem dX10_block_92 : decode cX10_block 92 = .ok (.iinc 3 1, 3) := by decide +kernel
theorem dX10_block_95 : decode cX10_block 95 = .ok (.goto (-53), 3) := by decide +kernel
theorem dX10_block_98 : decode cX10_block 98 = .ok (.aload_n 0, 1) := by decide +kernel
theorem dX10_block_99 : decode cX10_block 99 = .ok (.getfield 210, 3) := by decide +kernel
theorem dX10_block_102 : decode cX10_block 102 = .ok (.iconst 1, 1) := by decide +kernel
theorem dX10_block_103 : decode cX10_block 103 = .ok (.isub, 1) := by decide +kernel
theorem dX10_block_104 : decode cX10_block 104 = .ok (.istore_n 3, 1) := by decide +kernel
theorem dX10_block_105 : decode cX10_block 105 = .ok (.iload_n 3, 1) := by decide +kernel
theorem dX10_block_106 : decode cX10_block 106 = .ok (.ifCond .lt 35, 3) := by decide +kernel
theorem dX10_block_109 : decode cX10_block 109 = .ok (.aload_n 0, 1) := by decide +kernel
theorem dX10_block_110 : decode cX10_block 110 = .ok (.getfield 38, 3) := by decide +kernel
theorem dX10_block_113 : decode cX10_block 113 = .ok (.aload_n 0, 1) := by decide +kernel
theorem dX10_block_114 : decode cX10_block 114 = .ok (.getfield 210, 3) := by decide +kernel
theorem dX10_block_117 : decode cX10_block 117 = .ok (.aload_n 0, 1) := by decide +kernel
theorem dX10_block_118 : decode cX10_block 118 = .ok (.getfield 38, 3) := by decide +kernel
theorem dX10_block_121 : decode cX10_block 121 = .ok (.iload_n 3, 1) := by decide +kernel
theorem dX10_block_122 : decode cX10_block 122 = .ok (.iaload, 1) := by decide +kernel
theorem dX10_block_123 : decode cX10_block 123 = .ok (.ineg, 1) := by decide +kernel
theorem dX10_block_124 : decode cX10_block 124 = .ok (.iastore, 1) := by decide +kernel
theorem dX10_block_125 : decode cX10_block 125 = .ok (.aload_n 0, 1) := by decide +kernel
theorem dX10_block_126 : decode cX10_block 126 = .ok (.dup, 1) := by decide +kernel
theorem dX10_block_127 : decode cX10_block 127 = .ok (.getfield 210, 3) := by decide +kernel
theorem dX10_block_130 : decode cX10_block 130 = .ok (.iconst 1, 1) := by decide +kernel
theorem dX10_block_131 : decode cX10_block 131 = .ok (.iadd, 1) := by decide +kernel
theorem dX10_block_132 : decode cX10_block 132 = .ok (.putfield 210, 3) := by decide +kernel
theorem dX10_block_135 : decode cX10_block 135 = .ok (.iinc 3 (-1), 3) := by decide +kernel
theorem dX10_block_138 : decode cX10_block 138 = .ok (.goto (-33), 3) := by decide +kernel
theorem dX10_block_141 : decode cX10_block 141 = .ok (.iload_n 2, 1) := by decide +kernel
theorem dX10_block_142 : decode cX10_block 142 = .ok (.ifCond .ne 15, 3) := by decide +kernel
theorem dX10_block_145 : decode cX10_block 145 = .ok (.aload_n 0, 1) := by decide +kernel
theorem dX10_block_146 : decode cX10_block 146 = .ok (.bipush 9, 2) := by decide +kernel
theorem dX10_block_148 : decode cX10_block 148 = .ok (.iconst 0, 1) := by decide +kernel
theorem dX10_block_149 : decode cX10_block 149 = .ok (.invokevirtual 213, 3) := by decide +kernel
theorem dX10_block_152 : decode cX10_block 152 = .ok (.aload_n 0, 1) := by decide +kernel
theorem dX10_block_153 : decode cX10_block 153 = .ok (.getfield 94, 3) := by decide +kernel
theorem dX10_block_156 : decode cX10_block 156 = .ok (.ireturn, 1) := by decide +kernel
theorem dX10_block_157 : decode cX10_block 157 = .ok (.aload_n 0, 1) := by decide +kernel
theorem dX10_block_158 : decode cX10_block 158 = .ok (.invokevirtual 222, 3) := by decide +kernel
theorem dX10_block_161 : decode cX10_block 161 = .ok (.iconst 0, 1) := by decide +kernel
theorem dX10_block_162 : decode cX10_block 162 = .ok (.istore_n 3, 1) := by decide +kernel
theorem dX10_block_163 : decode cX10_block 163 = .ok (.iload_n 3, 1) := by decide +kernel
theorem dX10_block_164 : decode cX10_block 164 = .ok (.aload_n 0, 1) := by decide +kernel
theorem dX10_block_165 : decode cX10_block 165 = .ok (.getfield 68, 3) := by decide +kernel
theorem dX10_block_168 : decode cX10_block 168 = .ok (.if_icmp .ge 29, 3) := by decide +kernel
theorem dX10_block_171 : decode cX10_block 171 = .ok (.aload_n 0, 1) := by decide +kernel
theorem dX10_block_172 : decode cX10_block 172 = .ok (.getfield 13, 3) := by decide +kernel
theorem dX10_block_175 : decode cX10_block 175 = .ok (.bipush 20, 2) := by decide +kernel
theorem dX10_block_177 : decode cX10_block 177 = .ok (.iload_n 3, 1) := by decide +kernel
theorem dX10_block_178 : decode cX10_block 178 = .ok (.imul, 1) := by decide +kernel
theorem dX10_block_179 : decode cX10_block 179 = .ok (.bipush 18, 2) := by decide +kernel
theorem dX10_block_181 : decode cX10_block 181 = .ok (.iadd, 1) := by decide +kernel
theorem dX10_block_182 : decode cX10_block 182 = .ok (.aload_n 0, 1) := by decide +kernel
theorem dX10_block_183 : decode cX10_block 183 = .ok (.getfield 23, 3) := by decide +kernel
theorem dX10_block_186 : decode cX10_block 186 = .ok (.iconst 3, 1) := by decide +kernel
theorem dX10_block_187 : decode cX10_block 187 = .ok (.iload_n 3, 1) := by decide +kernel
theorem dX10_block_188 : decode cX10_block 188 = .ok (.imul, 1) := by decide +kernel
theorem dX10_block_189 : decode cX10_block 189 = .ok (.iaload, 1) := by decide +kernel
theorem dX10_block_190 : decode cX10_block 190 = .ok (.iastore, 1) := by decide +kernel
theorem dX10_block_191 : decode cX10_block 191 = .ok (.iinc 3 1, 3) := by decide +kernel
theorem dX10_block_194 : decode cX10_block 194 = .ok (.goto (-31), 3) := by decide +kernel
theorem dX10_block_197 : decode cX10_block 197 = .ok (.aload_n 0, 1) := by decide +kernel
theorem dX10_block_198 : decode cX10_block 198 = .ok (.bipush 9, 2) := by decide +kernel
theorem dX10_block_200 : decode cX10_block 200 = .ok (.iconst 1, 1) := by decide +kernel
theorem dX10_block_201 : decode cX10_block 201 = .ok (.aload_n 0, 1) := by decide +kernel
theorem dX10_block_202 : decode cX10_block 202 = .ok (.getfield 225, 3) := by decide +kernel
theorem dX10_block_205 : decode cX10_block 205 = .ok (.bipush 8, 2) := by decide +kernel
theorem dX10_block_207 : decode cX10_block 207 = .ok (.irem, 1) := by decide +kernel
theorem dX10_block_208 : decode cX10_block 208 = .ok (.iadd, 1) := by decide +kernel
theorem dX10_block_209 : decode cX10_block 209 = .ok (.invokevirtual 213, 3) := by decide +kernel
theorem dX10_block_212 : decode cX10_block 212 = .ok (.aload_n 0, 1) := by decide +kernel
theorem dX10_block_213 : decode cX10_block 213 = .ok (.dup, 1) := by decide +kernel
theorem dX10_block_214 : decode cX10_block 214 = .ok (.getfield 225, 3) := by decide +kernel
theorem dX10_block_217 : decode cX10_block 217 = .ok (.iconst 1, 1) := by decide +kernel
theorem dX10_block_218 : decode cX10_block 218 = .ok (.iadd, 1) := by decide +kernel
theorem dX10_block_219 : decode cX10_block 219 = .ok (.putfield 225, 3) := by decide +kernel
theorem dX10_block_222 : decode cX10_block 222 = .ok (.aload_n 0, 1) := by decide +kernel
theorem dX10_block_223 : decode cX10_block 223 = .ok (.dup, 1) := by decide +kernel
theorem dX10_block_224 : decode cX10_block 224 = .ok (.getfield 228, 3) := by decide +kernel
theorem dX10_block_227 : decode cX10_block 227 = .ok (.aload_n 0, 1) := by decide +kernel
theorem dX10_block_228 : decode cX10_block 228 = .ok (.getfield 228, 3) := by decide +kernel
theorem dX10_block_231 : decode cX10_block 231 = .ok (.bipush 8, 2) := by decide +kernel
theorem dX10_block_233 : decode cX10_block 233 = .ok (.if_icmp .ge 7, 3) := by decide +kernel
theorem dX10_block_236 : decode cX10_block 236 = .ok (.iconst 1, 1) := by decide +kernel
theorem dX10_block_237 : decode cX10_block 237 = .ok (.goto 4, 3) := by decide +kernel
theorem dX10_block_240 : decode cX10_block 240 = .ok (.iconst 0, 1) := by decide +kernel
theorem dX10_block_241 : decode cX10_block 241 = .ok (.iadd, 1) := by decide +kernel
theorem dX10_block_242 : decode cX10_block 242 = .ok (.putfield 228, 3) := by decide +kernel
theorem dX10_block_245 : decode cX10_block 245 = .ok (.aload_n 0, 1) := by decide +kernel
theorem dX10_block_246 : decode cX10_block 246 = .ok (.dup, 1) := by decide +kernel
theorem dX10_block_247 : decode cX10_block 247 = .ok (.getfield 231, 3) := by decide +kernel
theorem dX10_block_250 : decode cX10_block 250 = .ok (.iconst 1, 1) := by decide +kernel
theorem dX10_block_251 : decode cX10_block 251 = .ok (.iadd, 1) := by decide +kernel
theorem dX10_block_252 : decode cX10_block 252 = .ok (.putfield 231, 3) := by decide +kernel
theorem dX10_block_255 : decode cX10_block 255 = .ok (.iconst 0, 1) := by decide +kernel
theorem dX10_block_256 : decode cX10_block 256 = .ok (.ireturn, 1) := by decide +kernel
theorem dX10_back_0 : decode cX10_back 0 = .ok (.iload_n 1, 1) := by decide +kernel
theorem dX10_back_1 : decode cX10_back 1 = .ok (.iconst 1, 1) := by decide +kernel
theorem dX10_back_2 : decode cX10_back 2 = .ok (.bipush 8, 2) := by decide +kernel
theorem dX10_back_4 : decode cX10_back 4 = .ok (.invokestatic 72, 3) := by decide +kernel
theorem dX10_back_7 : decode cX10_back 7 = .ok (.ifCond .eq 11, 3) := by decide +kernel
theorem dX10_back_10 : decode cX10_back 10 = .ok (.iload_n 1, 1) := by decide +kernel
theorem dX10_back_11 : decode cX10_back 11 = .ok (.aload_n 0, 1) := by decide +kernel
theorem dX10_back_12 : decode cX10_back 12 = .ok (.getfield 228, 3) := by decide +kernel
theorem dX10_back_15 : decode cX10_back 15 = .ok (.if_icmp .le 5, 3) := by decide +kernel
theorem dX10_back_18 : decode cX10_back 18 = .ok (.iconst (-1), 1) := by decide +kernel
theorem dX10_back_19 : decode cX10_back 19 = .ok (.ireturn, 1) := by decide +kernel
theorem dX10_back_20 : decode cX10_back 20 = .ok (.aload_n 0, 1) := by decide +kernel
theorem dX10_back_21 : decode cX10_back 21 = .ok (.dup, 1) := by decide +kernel
theorem dX10_back_22 : decode cX10_back 22 = .ok (.getfield 225, 3) := by decide +kernel
theorem dX10_back_25 : decode cX10_back 25 = .ok (.iload_n 1, 1) := by decide +kernel
theorem dX10_back_26 : decode cX10_back 26 = .ok (.isub, 1) := by decide +kernel
theorem dX10_back_27 : decode cX10_back 27 = .ok (.putfield 225, 3) := by decide +kernel
theorem dX10_back_30 : decode cX10_back 30 = .ok (.aload_n 0, 1) := by decide +kernel
theorem dX10_back_31 : decode cX10_back 31 = .ok (.dup, 1) := by decide +kernel
theorem dX10_back_32 : decode cX10_back 32 = .ok (.getfield 228, 3) := by decide +kernel
theorem dX10_back_35 : decode cX10_back 35 = .ok (.iload_n 1, 1) := by decide +kernel
theorem dX10_back_36 : decode cX10_back 36 = .ok (.isub, 1) := by decide +kernel
theorem dX10_back_37 : decode cX10_back 37 = .ok (.putfield 228, 3) := by decide +kernel
theorem dX10_back_40 : decode cX10_back 40 = .ok (.aload_n 0, 1) := by decide +kernel
theorem dX10_back_41 : decode cX10_back 41 = .ok (.dup, 1) := by decide +kernel
theorem dX10_back_42 : decode cX10_back 42 = .ok (.getfield 231, 3) := by decide +kernel
theorem dX10_back_45 : decode cX10_back 45 = .ok (.iload_n 1, 1) := by decide +kernel
theorem dX10_back_46 : decode cX10_back 46 = .ok (.isub, 1) := by decide +kernel
theorem dX10_back_47 : decode cX10_back 47 = .ok (.putfield 231, 3) := by decide +kernel
theorem dX10_back_50 : decode cX10_back 50 = .ok (.aload_n 0, 1) := by decide +kernel
theorem dX10_back_51 : decode cX10_back 51 = .ok (.iconst 1, 1) := by decide +kernel
theorem dX10_back_52 : decode cX10_back 52 = .ok (.aload_n 0, 1) := by decide +kernel
theorem dX10_back_53 : decode cX10_back 53 = .ok (.getfield 225, 3) := by decide +kernel
theorem dX10_back_56 : decode cX10_back 56 = .ok (.bipush 8, 2) := by decide +kernel
theorem dX10_back_58 : decode cX10_back 58 = .ok (.irem, 1) := by decide +kernel
theorem dX10_back_59 : decode cX10_back 59 = .ok (.iadd, 1) := by decide +kernel
theorem dX10_back_60 : decode cX10_back 60 = .ok (.iconst 0, 1) := by decide +kernel
theorem dX10_back_61 : decode cX10_back 61 = .ok (.invokevirtual 213, 3) := by decide +kernel
theorem dX10_back_64 : decode cX10_back 64 = .ok (.aload_n 0, 1) := by decide +kernel
theorem dX10_back_65 : decode cX10_back 65 = .ok (.getfield 228, 3) := by decide +kernel
theorem dX10_back_68 : decode cX10_back 68 = .ok (.ireturn, 1) := by decide +kernel
theorem dX10_keep_0 : decode cX10_keep 0 = .ok (.iload_n 1, 1) := by decide +kernel
theorem dX10_keep_1 : decode cX10_keep 1 = .ok (.iconst 0, 1) := by decide +kernel
theorem dX10_keep_2 : decode cX10_keep 2 = .ok (.bipush 7, 2) := by decide +kernel
theorem dX10_keep_4 : decode cX10_keep 4 = .ok (.invokestatic 72, 3) := by decide +kernel
theorem dX10_keep_7 : decode cX10_keep 7 = .ok (.ifCond .ne 5, 3) := by decide +kernel
theorem dX10_keep_10 : decode cX10_keep 10 = .ok (.iconst (-1), 1) := by decide +kernel
theorem dX10_keep_11 : decode cX10_keep 11 = .ok (.ireturn, 1) := by decide +kernel
theorem dX10_keep_12 : decode cX10_keep 12 = .ok (.iconst 0, 1) := by decide +kernel
theorem dX10_keep_13 : decode cX10_keep 13 = .ok (.istore_n 2, 1) := by decide +kernel
theorem dX10_keep_14 : decode cX10_keep 14 = .ok (.iload_n 2, 1) := by decide +kernel
theorem dX10_keep_15 : decode cX10_keep 15 = .ok (.bipush 72, 2) := by decide +kernel
theorem dX10_keep_17 : decode cX10_keep 17 = .ok (.if_icmp .ge 26, 3) := by decide +kernel
theorem dX10_keep_20 : decode cX10_keep 20 = .ok (.aload_n 0, 1) := by decide +kernel
theorem dX10_keep_21 : decode cX10_keep 21 = .ok (.getfield 41, 3) := by decide +kernel
theorem dX10_keep_24 : decode cX10_keep 24 = .ok (.bipush 72, 2) := by decide +kernel
theorem dX10_keep_26 : decode cX10_keep 26 = .ok (.iload_n 1, 1) := by decide +kernel
theorem dX10_keep_27 : decode cX10_keep 27 = .ok (.imul, 1) := by decide +kernel
theorem dX10_keep_28 : decode cX10_keep 28 = .ok (.iload_n 2, 1) := by decide +kernel
theorem dX10_keep_29 : decode cX10_keep 29 = .ok (.iadd, 1) := by decide +kernel
theorem dX10_keep_30 : decode cX10_keep 30 = .ok (.aload_n 0, 1) := by decide +kernel
theorem dX10_keep_31 : decode cX10_keep 31 = .ok (.getfield 23, 3) := by decide +kernel
theorem dX10_keep_34 : decode cX10_keep 34 = .ok (.iload_n 2, 1) := by decide +kernel
theorem dX10_keep_35 : decode cX10_keep 35 = .ok (.iaload, 1) := by decide +kernel
theorem dX10_keep_36 : decode cX10_keep 36 = .ok (.iastore, 1) := by decide +kernel
theorem dX10_keep_37 : decode cX10_keep 37 = .ok (.iinc 2 1, 3) := by decide +kernel
theorem dX10_keep_40 : decode cX10_keep 40 = .ok (.goto (-26), 3) := by decide +kernel
theorem dX10_keep_43 : decode cX10_keep 43 = .ok (.aload_n 0, 1) := by decide +kernel
theorem dX10_keep_44 : decode cX10_keep 44 = .ok (.getfield 44, 3) := by decide +kernel
theorem dX10_keep_47 : decode cX10_keep 47 = .ok (.iload_n 1, 1) := by decide +kernel
theorem dX10_keep_48 : decode cX10_keep 48 = .ok (.aload_n 0, 1) := by decide +kernel
theorem dX10_keep_49 : decode cX10_keep 49 = .ok (.getfield 68, 3) := by decide +kernel
theorem dX10_keep_52 : decode cX10_keep 52 = .ok (.iconst 1, 1) := by decide +kernel
theorem dX10_keep_53 : decode cX10_keep 53 = .ok (.iadd, 1) := by decide +kernel
theorem dX10_keep_54 : decode cX10_keep 54 = .ok (.iastore, 1) := by decide +kernel
theorem dX10_keep_55 : decode cX10_keep 55 = .ok (.aload_n 0, 1) := by decide +kernel
theorem dX10_keep_56 : decode cX10_keep 56 = .ok (.getfield 68, 3) := by decide +kernel
theorem dX10_keep_59 : decode cX10_keep 59 = .ok (.ireturn, 1) := by decide +kernel
theorem dX10_recall_0 : decode cX10_recall 0 = .ok (.iload_n 1, 1) := by decide +kernel
theorem dX10_recall_1 : decode cX10_recall 1 = .ok (.iconst 0, 1) := by decide +kernel
theorem dX10_recall_2 : decode cX10_recall 2 = .ok (.bipush 7, 2) := by decide +kernel
theorem dX10_recall_4 : decode cX10_recall 4 = .ok (.invokestatic 72, 3) := by decide +kernel
theorem dX10_recall_7 : decode cX10_recall 7 = .ok (.ifCond .ne 5, 3) := by decide +kernel
theorem dX10_recall_10 : decode cX10_recall 10 = .ok (.iconst (-1), 1) := by decide +kernel
theorem dX10_recall_11 : decode cX10_recall 11 = .ok (.ireturn, 1) := by decide +kernel
theorem dX10_recall_12 : decode cX10_recall 12 = .ok (.aload_n 0, 1) := by decide +kernel
theorem dX10_recall_13 : decode cX10_recall 13 = .ok (.getfield 44, 3) := by decide +kernel
theorem dX10_recall_16 : decode cX10_recall 16 = .ok (.iload_n 1, 1) := by decide +kernel
theorem dX10_recall_17 : decode cX10_recall 17 = .ok (.iaload, 1) := by decide +kernel
theorem dX10_recall_18 : decode cX10_recall 18 = .ok (.ifCond .ne 6, 3) := by decide +kernel
theorem dX10_recall_21 : decode cX10_recall 21 = .ok (.bipush (-2), 2) := by decide +kernel
theorem dX10_recall_23 : decode cX10_recall 23 = .ok (.ireturn, 1) := by decide +kernel
theorem dX10_recall_24 : decode cX10_recall 24 = .ok (.aload_n 0, 1) := by decide +kernel
theorem dX10_recall_25 : decode cX10_recall 25 = .ok (.getfield 44, 3) := by decide +kernel
theorem dX10_recall_28 : decode cX10_recall 28 = .ok (.iload_n 1, 1) := by decide +kernel
theorem dX10_recall_29 : decode cX10_recall 29 = .ok (.iaload, 1) := by decide +kernel
theorem dX10_recall_30 : decode cX10_recall 30 = .ok (.iconst 1, 1) := by decide +kernel
theorem dX10_recall_31 : decode cX10_recall 31 = .ok (.isub, 1) := by decide +kernel
theorem dX10_recall_32 : decode cX10_recall 32 = .ok (.istore_n 2, 1) := by decide +kernel
theorem dX10_recall_33 : decode cX10_recall 33 = .ok (.iconst 0, 1) := by decide +kernel
theorem dX10_recall_34 : decode cX10_recall 34 = .ok (.istore_n 3, 1) := by decide +kernel
theorem dX10_recall_35 : decode cX10_recall 35 = .ok (.iload_n 3, 1) := by decide +kernel
theorem dX10_recall_36 : decode cX10_recall 36 = .ok (.iconst 3, 1) := by decide +kernel
theorem dX10_recall_37 : decode cX10_recall 37 = .ok (.iload_n 2, 1) := by decide +kernel
theorem dX10_recall_38 : decode cX10_recall 38 = .ok (.imul, 1) := by decide +kernel
theorem dX10_recall_39 : decode cX10_recall 39 = .ok (.if_icmp .ge 26, 3) := by decide +kernel
theorem dX10_recall_42 : decode cX10_recall 42 = .ok (.aload_n 0, 1) := by decide +kernel
theorem dX10_recall_43 : decode cX10_recall 43 = .ok (.getfield 23, 3) := by decide +kernel
theorem dX10_recall_46 : decode cX10_recall 46 = .ok (.iload_n 3, 1) := by decide +kernel
theorem dX10_recall_47 : decode cX10_recall 47 = .ok (.aload_n 0, 1) := by decide +kernel
theorem dX10_recall_48 : decode cX10_recall 48 = .ok (.getfield 41, 3) := by decide +kernel
theorem dX10_recall_51 : decode cX10_recall 51 = .ok (.bipush 72, 2) := by decide +kernel
theorem dX10_recall_53 : decode cX10_recall 53 = .ok (.iload_n 1, 1) := by decide +kernel
theorem dX10_recall_54 : decode cX10_recall 54 = .ok (.imul, 1) := by decide +kernel
theorem dX10_recall_55 : decode cX10_recall 55 = .ok (.iload_n 3, 1) := by decide +kernel
theorem dX10_recall_56 : decode cX10_recall 56 = .ok (.iadd, 1) := by decide +kernel
theorem dX10_recall_57 : decode cX10_recall 57 = .ok (.iaload, 1) := by decide +kernel
theorem dX10_recall_58 : decode cX10_recall 58 = .ok (.iastore, 1) := by decide +kernel
theorem dX10_recall_59 : decode cX10_recall 59 = .ok (.iinc 3 1, 3) := by decide +kernel
theorem dX10_recall_62 : decode cX10_recall 62 = .ok (.goto (-27), 3) := by decide +kernel
theorem dX10_recall_65 : decode cX10_recall 65 = .ok (.iload_n 2, 1) := by decide +kernel
theorem dX10_recall_66 : decode cX10_recall 66 = .ok (.ireturn, 1) := by decide +kernel
theorem dX10_take_0 : decode cX10_take 0 = .ok (.aload_n 0, 1) := by decide +kernel
theorem dX10_take_1 : decode cX10_take 1 = .ok (.iload_n 1, 1) := by decide +kernel
theorem dX10_take_2 : decode cX10_take 2 = .ok (.invokevirtual 76, 3) := by decide +kernel
theorem dX10_take_5 : decode cX10_take 5 = .ok (.ifCond .ne 5, 3) := by decide +kernel
theorem dX10_take_8 : decode cX10_take 8 = .ok (.iconst (-1), 1) := by decide +kernel
theorem dX10_take_9 : decode cX10_take 9 = .ok (.ireturn, 1) := by decide +kernel
theorem dX10_take_10 : decode cX10_take 10 = .ok (.aload_n 0, 1) := by decide +kernel
theorem dX10_take_11 : decode cX10_take 11 = .ok (.iload_n 1, 1) := by decide +kernel
theorem dX10_take_12 : decode cX10_take 12 = .ok (.invokevirtual 106, 3) := by decide +kernel
theorem dX10_take_15 : decode cX10_take 15 = .ok (.ifCond .ge 6, 3) := by decide +kernel
theorem dX10_take_18 : decode cX10_take 18 = .ok (.bipush (-2), 2) := by decide +kernel
theorem dX10_take_20 : decode cX10_take 20 = .ok (.ireturn, 1) := by decide +kernel
theorem dX10_take_21 : decode cX10_take 21 = .ok (.aload_n 0, 1) := by decide +kernel
theorem dX10_take_22 : decode cX10_take 22 = .ok (.getfield 234, 3) := by decide +kernel
theorem dX10_take_25 : decode cX10_take 25 = .ok (.bipush 40, 2) := by decide +kernel
theorem dX10_take_27 : decode cX10_take 27 = .ok (.if_icmp .ne 6, 3) := by decide +kernel
theorem dX10_take_30 : decode cX10_take 30 = .ok (.bipush (-3), 2) := by decide +kernel
theorem dX10_take_32 : decode cX10_take 32 = .ok (.ireturn, 1) := by decide +kernel
theorem dX10_take_33 : decode cX10_take 33 = .ok (.aload_n 0, 1) := by decide +kernel
theorem dX10_take_34 : decode cX10_take 34 = .ok (.dup, 1) := by decide +kernel
theorem dX10_take_35 : decode cX10_take 35 = .ok (.getfield 237, 3) := by decide +kernel
theorem dX10_take_38 : decode cX10_take 38 = .ok (.iconst 1, 1) := by decide +kernel
theorem dX10_take_39 : decode cX10_take 39 = .ok (.iadd, 1) := by decide +kernel
theorem dX10_take_40 : decode cX10_take 40 = .ok (.putfield 237, 3) := by decide +kernel
theorem dX10_take_43 : decode cX10_take 43 = .ok (.aload_n 0, 1) := by decide +kernel
theorem dX10_take_44 : decode cX10_take 44 = .ok (.getfield 47, 3) := by decide +kernel
theorem dX10_take_47 : decode cX10_take 47 = .ok (.aload_n 0, 1) := by decide +kernel
theorem dX10_take_48 : decode cX10_take 48 = .ok (.getfield 234, 3) := by decide +kernel
theorem dX10_take_51 : decode cX10_take 51 = .ok (.aload_n 0, 1) := by decide +kernel
theorem dX10_take_52 : decode cX10_take 52 = .ok (.getfield 237, 3) := by decide +kernel
theorem dX10_take_55 : decode cX10_take 55 = .ok (.iastore, 1) := by decide +kernel
theorem dX10_take_56 : decode cX10_take 56 = .ok (.aload_n 0, 1) := by decide +kernel
theorem dX10_take_57 : decode cX10_take 57 = .ok (.getfield 50, 3) := by decide +kernel
theorem dX10_take_60 : decode cX10_take 60 = .ok (.aload_n 0, 1) := by decide +kernel
theorem dX10_take_61 : decode cX10_take 61 = .ok (.getfield 234, 3) := by decide +kernel
theorem dX10_take_64 : decode cX10_take 64 = .ok (.aload_n 0, 1) := by decide +kernel
theorem dX10_take_65 : decode cX10_take 65 = .ok (.iload_n 1, 1) := by decide +kernel
theorem dX10_take_66 : decode cX10_take 66 = .ok (.invokevirtual 106, 3) := by decide +kernel
theorem dX10_take_69 : decode cX10_take 69 = .ok (.iastore, 1) := by decide +kernel
theorem dX10_take_70 : decode cX10_take 70 = .ok (.aload_n 0, 1) := by decide +kernel
theorem dX10_take_71 : decode cX10_take 71 = .ok (.getfield 53, 3) := by decide +kernel
theorem dX10_take_74 : decode cX10_take 74 = .ok (.aload_n 0, 1) := by decide +kernel
theorem dX10_take_75 : decode cX10_take 75 = .ok (.getfield 234, 3) := by decide +kernel
theorem dX10_take_78 : decode cX10_take 78 = .ok (.aload_n 0, 1) := by decide +kernel
theorem dX10_take_79 : decode cX10_take 79 = .ok (.getfield 13, 3) := by decide +kernel
theorem dX10_take_82 : decode cX10_take 82 = .ok (.aload_n 0, 1) := by decide +kernel
theorem dX10_take_83 : decode cX10_take 83 = .ok (.iload_n 1, 1) := by decide +kernel
theorem dX10_take_84 : decode cX10_take 84 = .ok (.iconst 0, 1) := by decide +kernel
theorem dX10_take_85 : decode cX10_take 85 = .ok (.invokevirtual 91, 3) := by decide +kernel
theorem dX10_take_88 : decode cX10_take 88 = .ok (.iconst 1, 1) := by decide +kernel
theorem dX10_take_89 : decode cX10_take 89 = .ok (.iadd, 1) := by decide +kernel
theorem dX10_take_90 : decode cX10_take 90 = .ok (.iaload, 1) := by decide +kernel
theorem dX10_take_91 : decode cX10_take 91 = .ok (.iastore, 1) := by decide +kernel
theorem dX10_take_92 : decode cX10_take 92 = .ok (.aload_n 0, 1) := by decide +kernel
theorem dX10_take_93 : decode cX10_take 93 = .ok (.getfield 56, 3) := by decide +kernel
theorem dX10_take_96 : decode cX10_take 96 = .ok (.aload_n 0, 1) := by decide +kernel
theorem dX10_take_97 : decode cX10_take 97 = .ok (.getfield 234, 3) := by decide +kernel
theorem dX10_take_100 : decode cX10_take 100 = .ok (.aload_n 0, 1) := by decide +kernel
theorem dX10_take_101 : decode cX10_take 101 = .ok (.getfield 13, 3) := by decide +kernel
theorem dX10_take_104 : decode cX10_take 104 = .ok (.aload_n 0, 1) := by decide +kernel
theorem dX10_take_105 : decode cX10_take 105 = .ok (.iload_n 1, 1) := by decide +kernel
theorem dX10_take_106 : decode cX10_take 106 = .ok (.iconst 0, 1) := by decide +kernel
theorem dX10_take_107 : decode cX10_take 107 = .ok (.invokevirtual 91, 3) := by decide +kernel
theorem dX10_take_110 : decode cX10_take 110 = .ok (.iconst 2, 1) := by decide +kernel
theorem dX10_take_111 : decode cX10_take 111 = .ok (.iadd, 1) := by decide +kernel
theorem dX10_take_112 : decode cX10_take 112 = .ok (.iaload, 1) := by decide +kernel
theorem dX10_take_113 : decode cX10_take 113 = .ok (.iastore, 1) := by decide +kernel
theorem dX10_take_114 : decode cX10_take 114 = .ok (.iconst 0, 1) := by decide +kernel
theorem dX10_take_115 : decode cX10_take 115 = .ok (.istore_n 2, 1) := by decide +kernel
theorem dX10_take_116 : decode cX10_take 116 = .ok (.iload_n 2, 1) := by decide +kernel
theorem dX10_take_117 : decode cX10_take 117 = .ok (.bipush 16, 2) := by decide +kernel
theorem dX10_take_119 : decode cX10_take 119 = .ok (.if_icmp .ge 34, 3) := by decide +kernel
theorem dX10_take_122 : decode cX10_take 122 = .ok (.aload_n 0, 1) := by decide +kernel
theorem dX10_take_123 : decode cX10_take 123 = .ok (.getfield 59, 3) := by decide +kernel
theorem dX10_take_126 : decode cX10_take 126 = .ok (.bipush 16, 2) := by decide +kernel
theorem dX10_take_128 : decode cX10_take 128 = .ok (.aload_n 0, 1) := by decide +kernel
theorem dX10_take_129 : decode cX10_take 129 = .ok (.getfield 234, 3) := by decide +kernel
theorem dX10_take_132 : decode cX10_take 132 = .ok (.imul, 1) := by decide +kernel
theorem dX10_take_133 : decode cX10_take 133 = .ok (.iload_n 2, 1) := by decide +kernel
theorem dX10_take_134 : decode cX10_take 134 = .ok (.iadd, 1) := by decide +kernel
theorem dX10_take_135 : decode cX10_take 135 = .ok (.aload_n 0, 1) := by decide +kernel
theorem dX10_take_136 : decode cX10_take 136 = .ok (.getfield 7, 3) := by decide +kernel
theorem dX10_take_139 : decode cX10_take 139 = .ok (.bipush 82, 2) := by decide +kernel
theorem dX10_take_141 : decode cX10_take 141 = .ok (.iload_n 1, 1) := by decide +kernel
theorem dX10_take_142 : decode cX10_take 142 = .ok (.imul, 1) := by decide +kernel
theorem dX10_take_143 : decode cX10_take 143 = .ok (.iload_n 2, 1) := by decide +kernel
theorem dX10_take_144 : decode cX10_take 144 = .ok (.iadd, 1) := by decide +kernel
theorem dX10_take_145 : decode cX10_take 145 = .ok (.daload, 1) := by decide +kernel
theorem dX10_take_146 : decode cX10_take 146 = .ok (.dastore, 1) := by decide +kernel
theorem dX10_take_147 : decode cX10_take 147 = .ok (.iinc 2 1, 3) := by decide +kernel
theorem dX10_take_150 : decode cX10_take 150 = .ok (.goto (-34), 3) := by decide +kernel
theorem dX10_take_153 : decode cX10_take 153 = .ok (.aload_n 0, 1) := by decide +kernel
theorem dX10_take_154 : decode cX10_take 154 = .ok (.dup, 1) := by decide +kernel
theorem dX10_take_155 : decode cX10_take 155 = .ok (.getfield 234, 3) := by decide +kernel
theorem dX10_take_158 : decode cX10_take 158 = .ok (.iconst 1, 1) := by decide +kernel
theorem dX10_take_159 : decode cX10_take 159 = .ok (.iadd, 1) := by decide +kernel
theorem dX10_take_160 : decode cX10_take 160 = .ok (.putfield 234, 3) := by decide +kernel
theorem dX10_take_163 : decode cX10_take 163 = .ok (.aload_n 0, 1) := by decide +kernel
theorem dX10_take_164 : decode cX10_take 164 = .ok (.getfield 237, 3) := by decide +kernel
theorem dX10_take_167 : decode cX10_take 167 = .ok (.ireturn, 1) := by decide +kernel
theorem dX10_takeOf_0 : decode cX10_takeOf 0 = .ok (.iconst (-1), 1) := by decide +kernel
theorem dX10_takeOf_1 : decode cX10_takeOf 1 = .ok (.istore_n 2, 1) := by decide +kernel
theorem dX10_takeOf_2 : decode cX10_takeOf 2 = .ok (.iconst 0, 1) := by decide +kernel
theorem dX10_takeOf_3 : decode cX10_takeOf 3 = .ok (.istore_n 3, 1) := by decide +kernel
theorem dX10_takeOf_4 : decode cX10_takeOf 4 = .ok (.iload_n 3, 1) := by decide +kernel
theorem dX10_takeOf_5 : decode cX10_takeOf 5 = .ok (.aload_n 0, 1) := by decide +kernel
theorem dX10_takeOf_6 : decode cX10_takeOf 6 = .ok (.getfield 234, 3) := by decide +kernel
theorem dX10_takeOf_9 : decode cX10_takeOf 9 = .ok (.if_icmp .ge 25, 3) := by decide +kernel
theorem dX10_takeOf_12 : decode cX10_takeOf 12 = .ok (.aload_n 0, 1) := by decide +kernel
theorem dX10_takeOf_13 : decode cX10_takeOf 13 = .ok (.getfield 47, 3) := by decide +kernel
theorem dX10_takeOf_16 : decode cX10_takeOf 16 = .ok (.iload_n 3, 1) := by decide +kernel
theorem dX10_takeOf_17 : decode cX10_takeOf 17 = .ok (.iaload, 1) := by decide +kernel
theorem dX10_takeOf_18 : decode cX10_takeOf 18 = .ok (.iload_n 1, 1) := by decide +kernel
theorem dX10_takeOf_19 : decode cX10_takeOf 19 = .ok (.if_icmp .ne 7, 3) := by decide +kernel
theorem dX10_takeOf_22 : decode cX10_takeOf 22 = .ok (.iload_n 3, 1) := by decide +kernel
theorem dX10_takeOf_23 : decode cX10_takeOf 23 = .ok (.goto 4, 3) := by decide +kernel
theorem dX10_takeOf_26 : decode cX10_takeOf 26 = .ok (.iload_n 2, 1) := by decide +kernel
theorem dX10_takeOf_27 : decode cX10_takeOf 27 = .ok (.istore_n 2, 1) := by decide +kernel
theorem dX10_takeOf_28 : decode cX10_takeOf 28 = .ok (.iinc 3 1, 3) := by decide +kernel
theorem dX10_takeOf_31 : decode cX10_takeOf 31 = .ok (.goto (-27), 3) := by decide +kernel
theorem dX10_takeOf_34 : decode cX10_takeOf 34 = .ok (.iload_n 2, 1) := by decide +kernel
theorem dX10_takeOf_35 : decode cX10_takeOf 35 = .ok (.ireturn, 1) := by decide +kernel
theorem dX10_hasMinus_0 : decode cX10_hasMinus 0 = .ok (.dload_n 0, 1) := by decide +kernel
theorem dX10_hasMinus_1 : decode cX10_hasMinus 1 = .ok (.dconst 0, 1) := by decide +kernel
theorem dX10_hasMinus_2 : decode cX10_hasMinus 2 = .ok (.dcmp .g, 1) := by decide +kernel
theorem dX10_hasMinus_3 : decode cX10_hasMinus 3 = .ok (.ifCond .lt 17, 3) := by decide +kernel
theorem dX10_hasMinus_6 : decode cX10_hasMinus 6 = .ok (.dload_n 0, 1) := by decide +kernel
theorem dX10_hasMinus_7 : decode cX10_hasMinus 7 = .ok (.dconst 0, 1) := by decide +kernel
theorem dX10_hasMinus_8 : decode cX10_hasMinus 8 = .ok (.dcmp .l, 1) := by decide +kernel
theorem dX10_hasMinus_9 : decode cX10_hasMinus 9 = .ok (.ifCond .ne 15, 3) := by decide +kernel
theorem dX10_hasMinus_12 : decode cX10_hasMinus 12 = .ok (.dconst 1, 1) := by decide +kernel
theorem dX10_hasMinus_13 : decode cX10_hasMinus 13 = .ok (.dload_n 0, 1) := by decide +kernel
theorem dX10_hasMinus_14 : decode cX10_hasMinus 14 = .ok (.ddiv, 1) := by decide +kernel
theorem dX10_hasMinus_15 : decode cX10_hasMinus 15 = .ok (.dconst 0, 1) := by decide +kernel
theorem dX10_hasMinus_16 : decode cX10_hasMinus 16 = .ok (.dcmp .g, 1) := by decide +kernel
theorem dX10_hasMinus_17 : decode cX10_hasMinus 17 = .ok (.ifCond .ge 7, 3) := by decide +kernel
theorem dX10_hasMinus_20 : decode cX10_hasMinus 20 = .ok (.iconst 1, 1) := by decide +kernel
theorem dX10_hasMinus_21 : decode cX10_hasMinus 21 = .ok (.goto 4, 3) := by decide +kernel
theorem dX10_hasMinus_24 : decode cX10_hasMinus 24 = .ok (.iconst 0, 1) := by decide +kernel
theorem dX10_hasMinus_25 : decode cX10_hasMinus 25 = .ok (.ireturn, 1) := by decide +kernel
theorem dX10_equal_0 : decode cX10_equal 0 = .ok (.aload_n 0, 1) := by decide +kernel
theorem dX10_equal_1 : decode cX10_equal 1 = .ok (.iload_n 1, 1) := by decide +kernel
theorem dX10_equal_2 : decode cX10_equal 2 = .ok (.invokevirtual 240, 3) := by decide +kernel
theorem dX10_equal_5 : decode cX10_equal 5 = .ok (.istore_n 3, 1) := by decide +kernel
theorem dX10_equal_6 : decode cX10_equal 6 = .ok (.aload_n 0, 1) := by decide +kernel
theorem dX10_equal_7 : decode cX10_equal 7 = .ok (.iload_n 2, 1) := by decide +kernel
theorem dX10_equal_8 : decode cX10_equal 8 = .ok (.invokevirtual 240, 3) := by decide +kernel
theorem dX10_equal_11 : decode cX10_equal 11 = .ok (.istore 4, 2) := by decide +kernel
theorem dX10_equal_13 : decode cX10_equal 13 = .ok (.iload_n 3, 1) := by decide +kernel
theorem dX10_equal_14 : decode cX10_equal 14 = .ok (.ifCond .lt 8, 3) := by decide +kernel
theorem dX10_equal_17 : decode cX10_equal 17 = .ok (.iload 4, 2) := by decide +kernel
theorem dX10_equal_19 : decode cX10_equal 19 = .ok (.ifCond .ge 5, 3) := by decide +kernel
theorem dX10_equal_22 : decode cX10_equal 22 = .ok (.iconst (-1), 1) := by decide +kernel
theorem dX10_equal_23 : decode cX10_equal 23 = .ok (.ireturn, 1) := by decide +kernel
theorem dX10_equal_24 : decode cX10_equal 24 = .ok (.aload_n 0, 1) := by decide +kernel
theorem dX10_equal_25 : decode cX10_equal 25 = .ok (.getfield 50, 3) := by decide +kernel
theorem dX10_equal_28 : decode cX10_equal 28 = .ok (.iload_n 3, 1) := by decide +kernel
theorem dX10_equal_29 : decode cX10_equal 29 = .ok (.iaload, 1) := by decide +kernel
theorem dX10_equal_30 : decode cX10_equal 30 = .ok (.aload_n 0, 1) := by decide +kernel
theorem dX10_equal_31 : decode cX10_equal 31 = .ok (.getfield 50, 3) := by decide +kernel
theorem dX10_equal_34 : decode cX10_equal 34 = .ok (.iload 4, 2) := by decide +kernel
theorem dX10_equal_36 : decode cX10_equal 36 = .ok (.iaload, 1) := by decide +kernel
theorem dX10_equal_37 : decode cX10_equal 37 = .ok (.if_icmp .ne 39, 3) := by decide +kernel
theorem dX10_equal_40 : decode cX10_equal 40 = .ok (.aload_n 0, 1) := by decide +kernel
theorem dX10_equal_41 : decode cX10_equal 41 = .ok (.getfield 53, 3) := by decide +kernel
theorem dX10_equal_44 : decode cX10_equal 44 = .ok (.iload_n 3, 1) := by decide +kernel
theorem dX10_equal_45 : decode cX10_equal 45 = .ok (.iaload, 1) := by decide +kernel
theorem dX10_equal_46 : decode cX10_equal 46 = .ok (.aload_n 0, 1) := by decide +kernel
theorem dX10_equal_47 : decode cX10_equal 47 = .ok (.getfield 53, 3) := by decide +kernel
theorem dX10_equal_50 : decode cX10_equal 50 = .ok (.iload 4, 2) := by decide +kernel
theorem dX10_equal_52 : decode cX10_equal 52 = .ok (.iaload, 1) := by decide +kernel
theorem dX10_equal_53 : decode cX10_equal 53 = .ok (.if_icmp .ne 23, 3) := by decide +kernel
theorem dX10_equal_56 : decode cX10_equal 56 = .ok (.aload_n 0, 1) := by decide +kernel
theorem dX10_equal_57 : decode cX10_equal 57 = .ok (.getfield 56, 3) := by decide +kernel
theorem dX10_equal_60 : decode cX10_equal 60 = .ok (.iload_n 3, 1) := by decide +kernel
theorem dX10_equal_61 : decode cX10_equal 61 = .ok (.iaload, 1) := by decide +kernel
theorem dX10_equal_62 : decode cX10_equal 62 = .ok (.aload_n 0, 1) := by decide +kernel
theorem dX10_equal_63 : decode cX10_equal 63 = .ok (.getfield 56, 3) := by decide +kernel
theorem dX10_equal_66 : decode cX10_equal 66 = .ok (.iload 4, 2) := by decide +kernel
theorem dX10_equal_68 : decode cX10_equal 68 = .ok (.iaload, 1) := by decide +kernel
theorem dX10_equal_69 : decode cX10_equal 69 = .ok (.if_icmp .ne 7, 3) := by decide +kernel
theorem dX10_equal_72 : decode cX10_equal 72 = .ok (.iconst 1, 1) := by decide +kernel
theorem dX10_equal_73 : decode cX10_equal 73 = .ok (.goto 4, 3) := by decide +kernel
theorem dX10_equal_76 : decode cX10_equal 76 = .ok (.iconst 0, 1) := by decide +kernel
theorem dX10_equal_77 : decode cX10_equal 77 = .ok (.istore 5, 2) := by decide +kernel
theorem dX10_equal_79 : decode cX10_equal 79 = .ok (.iconst 0, 1) := by decide +kernel
theorem dX10_equal_80 : decode cX10_equal 80 = .ok (.istore 6, 2) := by decide +kernel
theorem dX10_equal_82 : decode cX10_equal 82 = .ok (.iload 6, 2) := by decide +kernel
theorem dX10_equal_84 : decode cX10_equal 84 = .ok (.aload_n 0, 1) := by decide +kernel
theorem dX10_equal_85 : decode cX10_equal 85 = .ok (.getfield 53, 3) := by decide +kernel
theorem dX10_equal_88 : decode cX10_equal 88 = .ok (.iload_n 3, 1) := by decide +kernel
theorem dX10_equal_89 : decode cX10_equal 89 = .ok (.iaload, 1) := by decide +kernel
theorem dX10_equal_90 : decode cX10_equal 90 = .ok (.if_icmp .ge 86, 3) := by decide +kernel
theorem dX10_equal_93 : decode cX10_equal 93 = .ok (.iload 5, 2) := by decide +kernel
theorem dX10_equal_95 : decode cX10_equal 95 = .ok (.ifCond .eq 81, 3) := by decide +kernel
theorem dX10_equal_98 : decode cX10_equal 98 = .ok (.aload_n 0, 1) := by decide +kernel
theorem dX10_equal_99 : decode cX10_equal 99 = .ok (.getfield 59, 3) := by decide +kernel
theorem dX10_equal_102 : decode cX10_equal 102 = .ok (.bipush 16, 2) := by decide +kernel
theorem dX10_equal_104 : decode cX10_equal 104 = .ok (.iload_n 3, 1) := by decide +kernel
theorem dX10_equal_105 : decode cX10_equal 105 = .ok (.imul, 1) := by decide +kernel
theorem dX10_equal_106 : decode cX10_equal 106 = .ok (.iload 6, 2) := by decide +kernel
theorem dX10_equal_108 : decode cX10_equal 108 = .ok (.iadd, 1) := by decide +kernel
theorem dX10_equal_109 : decode cX10_equal 109 = .ok (.daload, 1) := by decide +kernel
theorem dX10_equal_110 : decode cX10_equal 110 = .ok (.dstore 7, 2) := by decide +kernel
theorem dX10_equal_112 : decode cX10_equal 112 = .ok (.aload_n 0, 1) := by decide +kernel
theorem dX10_equal_113 : decode cX10_equal 113 = .ok (.getfield 59, 3) := by decide +kernel
theorem dX10_equal_116 : decode cX10_equal 116 = .ok (.bipush 16, 2) := by decide +kernel
theorem dX10_equal_118 : decode cX10_equal 118 = .ok (.iload 4, 2) := by decide +kernel
theorem dX10_equal_120 : decode cX10_equal 120 = .ok (.imul, 1) := by decide +kernel
theorem dX10_equal_121 : decode cX10_equal 121 = .ok (.iload 6, 2) := by decide +kernel
theorem dX10_equal_123 : decode cX10_equal 123 = .ok (.iadd, 1) := by decide +kernel
theorem dX10_equal_124 : decode cX10_equal 124 = .ok (.daload, 1) := by decide +kernel
theorem dX10_equal_125 : decode cX10_equal 125 = .ok (.dstore 9, 2) := by decide +kernel
theorem dX10_equal_127 : decode cX10_equal 127 = .ok (.aload_n 0, 1) := by decide +kernel
theorem dX10_equal_128 : decode cX10_equal 128 = .ok (.getfield 56, 3) := by decide +kernel
theorem dX10_equal_131 : decode cX10_equal 131 = .ok (.iload_n 3, 1) := by decide +kernel
theorem dX10_equal_132 : decode cX10_equal 132 = .ok (.iaload, 1) := by decide +kernel
theorem dX10_equal_133 : decode cX10_equal 133 = .ok (.iload 6, 2) := by decide +kernel
theorem dX10_equal_135 : decode cX10_equal 135 = .ok (.ishr, 1) := by decide +kernel
theorem dX10_equal_136 : decode cX10_equal 136 = .ok (.iconst 1, 1) := by decide +kernel
theorem dX10_equal_137 : decode cX10_equal 137 = .ok (.iand, 1) := by decide +kernel
theorem dX10_equal_138 : decode cX10_equal 138 = .ok (.iconst 1, 1) := by decide +kernel
theorem dX10_equal_139 : decode cX10_equal 139 = .ok (.if_icmp .eq 24, 3) := by decide +kernel
theorem dX10_equal_142 : decode cX10_equal 142 = .ok (.dload 7, 2) := by decide +kernel
theorem dX10_equal_144 : decode cX10_equal 144 = .ok (.dload 9, 2) := by decide +kernel
theorem dX10_equal_146 : decode cX10_equal 146 = .ok (.dcmp .l, 1) := by decide +kernel
theorem dX10_equal_147 : decode cX10_equal 147 = .ok (.ifCond .ne 20, 3) := by decide +kernel
theorem dX10_equal_150 : decode cX10_equal 150 = .ok (.dload 7, 2) := by decide +kernel
theorem dX10_equal_152 : decode cX10_equal 152 = .ok (.invokestatic 243, 3) := by decide +kernel
theorem dX10_equal_155 : decode cX10_equal 155 = .ok (.dload 9, 2) := by decide +kernel
theorem dX10_equal_157 : decode cX10_equal 157 = .ok (.invokestatic 243, 3) := by decide +kernel
theorem dX10_equal_160 : decode cX10_equal 160 = .ok (.if_icmp .ne 7, 3) := by decide +kernel
theorem dX10_equal_163 : decode cX10_equal 163 = .ok (.iconst 1, 1) := by decide +kernel
theorem dX10_equal_164 : decode cX10_equal 164 = .ok (.goto 4, 3) := by decide +kernel
theorem dX10_equal_167 : decode cX10_equal 167 = .ok (.iconst 0, 1) := by decide +kernel
theorem dX10_equal_168 : decode cX10_equal 168 = .ok (.istore 5, 2) := by decide +kernel
theorem dX10_equal_170 : decode cX10_equal 170 = .ok (.iinc 6 1, 3) := by decide +kernel
theorem dX10_equal_173 : decode cX10_equal 173 = .ok (.goto (-91), 3) := by decide +kernel
theorem dX10_equal_176 : decode cX10_equal 176 = .ok (.iload 5, 2) := by decide +kernel
theorem dX10_equal_178 : decode cX10_equal 178 = .ok (.ifCond .eq 7, 3) := by decide +kernel
theorem dX10_equal_181 : decode cX10_equal 181 = .ok (.iconst 1, 1) := by decide +kernel
theorem dX10_equal_182 : decode cX10_equal 182 = .ok (.goto 4, 3) := by decide +kernel
theorem dX10_equal_185 : decode cX10_equal 185 = .ok (.iconst 0, 1) := by decide +kernel
theorem dX10_equal_186 : decode cX10_equal 186 = .ok (.ireturn, 1) := by decide +kernel
theorem dX10_row_0 : decode cX10_row 0 = .ok (.aload_n 0, 1) := by decide +kernel
theorem dX10_row_1 : decode cX10_row 1 = .ok (.iload_n 1, 1) := by decide +kernel
theorem dX10_row_2 : decode cX10_row 2 = .ok (.invokevirtual 76, 3) := by decide +kernel
theorem dX10_row_5 : decode cX10_row 5 = .ok (.ifCond .eq 12, 3) := by decide +kernel
theorem dX10_row_8 : decode cX10_row 8 = .ok (.iload_n 2, 1) := by decide +kernel
theorem dX10_row_9 : decode cX10_row 9 = .ok (.iconst 0, 1) := by decide +kernel
theorem dX10_row_10 : decode cX10_row 10 = .ok (.iconst 3, 1) := by decide +kernel
theorem dX10_row_11 : decode cX10_row 11 = .ok (.invokestatic 72, 3) := by decide +kernel
theorem dX10_row_14 : decode cX10_row 14 = .ok (.ifCond .ne 6, 3) := by decide +kernel
theorem dX10_row_17 : decode cX10_row 17 = .ok (.bipush (-2), 2) := by decide +kernel
theorem dX10_row_19 : decode cX10_row 19 = .ok (.ireturn, 1) := by decide +kernel
theorem dX10_row_20 : decode cX10_row 20 = .ok (.aload_n 0, 1) := by decide +kernel
theorem dX10_row_21 : decode cX10_row 21 = .ok (.iload_n 1, 1) := by decide +kernel
theorem dX10_row_22 : decode cX10_row 22 = .ok (.invokevirtual 106, 3) := by decide +kernel
theorem dX10_row_25 : decode cX10_row 25 = .ok (.ifCond .ge 5, 3) := by decide +kernel
theorem dX10_row_28 : decode cX10_row 28 = .ok (.iconst (-1), 1) := by decide +kernel
theorem dX10_row_29 : decode cX10_row 29 = .ok (.ireturn, 1) := by decide +kernel
theorem dX10_row_30 : decode cX10_row 30 = .ok (.aload_n 0, 1) := by decide +kernel
theorem dX10_row_31 : decode cX10_row 31 = .ok (.getfield 13, 3) := by decide +kernel
theorem dX10_row_34 : decode cX10_row 34 = .ok (.aload_n 0, 1) := by decide +kernel
theorem dX10_row_35 : decode cX10_row 35 = .ok (.iload_n 1, 1) := by decide +kernel
theorem dX10_row_36 : decode cX10_row 36 = .ok (.iconst 0, 1) := by decide +kernel
theorem dX10_row_37 : decode cX10_row 37 = .ok (.invokevirtual 91, 3) := by decide +kernel
theorem dX10_row_40 : decode cX10_row 40 = .ok (.iconst 1, 1) := by decide +kernel
theorem dX10_row_41 : decode cX10_row 41 = .ok (.iadd, 1) := by decide +kernel
theorem dX10_row_42 : decode cX10_row 42 = .ok (.iaload, 1) := by decide +kernel
theorem dX10_row_43 : decode cX10_row 43 = .ok (.istore_n 3, 1) := by decide +kernel
theorem dX10_row_44 : decode cX10_row 44 = .ok (.iconst 0, 1) := by decide +kernel
theorem dX10_row_45 : decode cX10_row 45 = .ok (.istore 4, 2) := by decide +kernel
theorem dX10_row_47 : decode cX10_row 47 = .ok (.iconst 1, 1) := by decide +kernel
theorem dX10_row_48 : decode cX10_row 48 = .ok (.istore 5, 2) := by decide +kernel
theorem dX10_row_50 : decode cX10_row 50 = .ok (.iconst 0, 1) := by decide +kernel
theorem dX10_row_51 : decode cX10_row 51 = .ok (.istore 6, 2) := by decide +kernel
theorem dX10_row_53 : decode cX10_row 53 = .ok (.iload 6, 2) := by decide +kernel
theorem dX10_row_55 : decode cX10_row 55 = .ok (.iload_n 3, 1) := by decide +kernel
theorem dX10_row_56 : decode cX10_row 56 = .ok (.if_icmp .ge 67, 3) := by decide +kernel
theorem dX10_row_59 : decode cX10_row 59 = .ok (.aload_n 0, 1) := by decide +kernel
theorem dX10_row_60 : decode cX10_row 60 = .ok (.iload_n 1, 1) := by decide +kernel
theorem dX10_row_61 : decode cX10_row 61 = .ok (.iload 6, 2) := by decide +kernel
theorem dX10_row_63 : decode cX10_row 63 = .ok (.invokevirtual 247, 3) := by decide +kernel
theorem dX10_row_66 : decode cX10_row 66 = .ok (.istore 7, 2) := by decide +kernel
theorem dX10_row_68 : decode cX10_row 68 = .ok (.iload 4, 2) := by decide +kernel
theorem dX10_row_70 : decode cX10_row 70 = .ok (.iload 7, 2) := by decide +kernel
theorem dX10_row_72 : decode cX10_row 72 = .ok (.ifCond .eq 7, 3) := by decide +kernel
theorem dX10_row_75 : decode cX10_row 75 = .ok (.iconst 1, 1) := by decide +kernel
theorem dX10_row_76 : decode cX10_row 76 = .ok (.goto 4, 3) := by decide +kernel
theorem dX10_row_79 : decode cX10_row 79 = .ok (.iconst 0, 1) := by decide +kernel
theorem dX10_row_80 : decode cX10_row 80 = .ok (.iadd, 1) := by decide +kernel
theorem dX10_row_81 : decode cX10_row 81 = .ok (.istore 4, 2) := by decide +kernel
theorem dX10_row_83 : decode cX10_row 83 = .ok (.iload 5, 2) := by decide +kernel
theorem dX10_row_85 : decode cX10_row 85 = .ok (.ifCond .eq 29, 3) := by decide +kernel
theorem dX10_row_88 : decode cX10_row 88 = .ok (.iload 7, 2) := by decide +kernel
theorem dX10_row_90 : decode cX10_row 90 = .ok (.ifCond .ne 24, 3) := by decide +kernel
theorem dX10_row_93 : decode cX10_row 93 = .ok (.aload_n 0, 1) := by decide +kernel
theorem dX10_row_94 : decode cX10_row 94 = .ok (.getfield 7, 3) := by decide +kernel
theorem dX10_row_97 : decode cX10_row 97 = .ok (.bipush 82, 2) := by decide +kernel
theorem dX10_row_99 : decode cX10_row 99 = .ok (.iload_n 1, 1) := by decide +kernel
theorem dX10_row_100 : decode cX10_row 100 = .ok (.imul, 1) := by decide +kernel
theorem dX10_row_101 : decode cX10_row 101 = .ok (.iload 6, 2) := by decide +kernel
theorem dX10_row_103 : decode cX10_row 103 = .ok (.iadd, 1) := by decide +kernel
theorem dX10_row_104 : decode cX10_row 104 = .ok (.daload, 1) := by decide +kernel
theorem dX10_row_105 : decode cX10_row 105 = .ok (.dconst 0, 1) := by decide +kernel
theorem dX10_row_106 : decode cX10_row 106 = .ok (.dcmp .l, 1) := by decide +kernel
theorem dX10_row_107 : decode cX10_row 107 = .ok (.ifCond .ne 7, 3) := by decide +kernel
theorem dX10_row_110 : decode cX10_row 110 = .ok (.iconst 1, 1) := by decide +kernel
theorem dX10_row_111 : decode cX10_row 111 = .ok (.goto 4, 3) := by decide +kernel
theorem dX10_row_114 : decode cX10_row 114 = .ok (.iconst 0, 1) := by decide +kernel
theorem dX10_row_115 : decode cX10_row 115 = .ok (.istore 5, 2) := by decide +kernel
theorem dX10_row_117 : decode cX10_row 117 = .ok (.iinc 6 1, 3) := by decide +kernel
theorem dX10_row_120 : decode cX10_row 120 = .ok (.goto (-67), 3) := by decide +kernel
theorem dX10_row_123 : decode cX10_row 123 = .ok (.iload_n 2, 1) := by decide +kernel
theorem dX10_row_124 : decode cX10_row 124 = .ok (.ifCond .ne 11, 3) := by decide +kernel
theorem dX10_row_127 : decode cX10_row 127 = .ok (.aload_n 0, 1) := by decide +kernel
theorem dX10_row_128 : decode cX10_row 128 = .ok (.iload_n 1, 1) := by decide +kernel
theorem dX10_row_129 : decode cX10_row 129 = .ok (.invokevirtual 106, 3) := by decide +kernel
theorem dX10_row_132 : decode cX10_row 132 = .ok (.goto 32, 3) := by decide +kernel
theorem dX10_row_135 : decode cX10_row 135 = .ok (.iload_n 2, 1) := by decide +kernel
theorem dX10_row_136 : decode cX10_row 136 = .ok (.iconst 1, 1) := by decide +kernel
theorem dX10_row_137 : decode cX10_row 137 = .ok (.if_icmp .ne 7, 3) := by decide +kernel
theorem dX10_row_140 : decode cX10_row 140 = .ok (.iload_n 3, 1) := by decide +kernel
theorem dX10_row_141 : decode cX10_row 141 = .ok (.goto 23, 3) := by decide +kernel
theorem dX10_row_144 : decode cX10_row 144 = .ok (.iload_n 2, 1) := by decide +kernel
theorem dX10_row_145 : decode cX10_row 145 = .ok (.iconst 2, 1) := by decide +kernel
theorem dX10_row_146 : decode cX10_row 146 = .ok (.if_icmp .ne 16, 3) := by decide +kernel
theorem dX10_row_149 : decode cX10_row 149 = .ok (.iload 5, 2) := by decide +kernel
theorem dX10_row_151 : decode cX10_row 151 = .ok (.ifCond .eq 7, 3) := by decide +kernel
theorem dX10_row_154 : decode cX10_row 154 = .ok (.iconst 1, 1) := by decide +kernel
theorem dX10_row_155 : decode cX10_row 155 = .ok (.goto 9, 3) := by decide +kernel
theorem dX10_row_158 : decode cX10_row 158 = .ok (.iconst 0, 1) := by decide +kernel
theorem dX10_row_159 : decode cX10_row 159 = .ok (.goto 5, 3) := by decide +kernel
theorem dX10_row_162 : decode cX10_row 162 = .ok (.iload 4, 2) := by decide +kernel
theorem dX10_row_164 : decode cX10_row 164 = .ok (.ireturn, 1) := by decide +kernel
theorem dX10_hasGiven_0 : decode cX10_hasGiven 0 = .ok (.aload_n 0, 1) := by decide +kernel
theorem dX10_hasGiven_1 : decode cX10_hasGiven 1 = .ok (.iload_n 1, 1) := by decide +kernel
theorem dX10_hasGiven_2 : decode cX10_hasGiven 2 = .ok (.invokevirtual 76, 3) := by decide +kernel
theorem dX10_hasGiven_5 : decode cX10_hasGiven 5 = .ok (.ifCond .eq 38, 3) := by decide +kernel
theorem dX10_hasGiven_8 : decode cX10_hasGiven 8 = .ok (.aload_n 0, 1) := by decide +kernel
theorem dX10_hasGiven_9 : decode cX10_hasGiven 9 = .ok (.iload_n 1, 1) := by decide +kernel
theorem dX10_hasGiven_10 : decode cX10_hasGiven 10 = .ok (.invokevirtual 106, 3) := by decide +kernel
theorem dX10_hasGiven_13 : decode cX10_hasGiven 13 = .ok (.ifCond .lt 30, 3) := by decide +kernel
theorem dX10_hasGiven_16 : decode cX10_hasGiven 16 = .ok (.iload_n 2, 1) := by decide +kernel
theorem dX10_hasGiven_17 : decode cX10_hasGiven 17 = .ok (.iconst 0, 1) := by decide +kernel
theorem dX10_hasGiven_18 : decode cX10_hasGiven 18 = .ok (.aload_n 0, 1) := by decide +kernel
theorem dX10_hasGiven_19 : decode cX10_hasGiven 19 = .ok (.getfield 13, 3) := by decide +kernel
theorem dX10_hasGiven_22 : decode cX10_hasGiven 22 = .ok (.aload_n 0, 1) := by decide +kernel
theorem dX10_hasGiven_23 : decode cX10_hasGiven 23 = .ok (.iload_n 1, 1) := by decide +kernel
theorem dX10_hasGiven_24 : decode cX10_hasGiven 24 = .ok (.iconst 0, 1) := by decide +kernel
theorem dX10_hasGiven_25 : decode cX10_hasGiven 25 = .ok (.invokevirtual 91, 3) := by decide +kernel
theorem dX10_hasGiven_28 : decode cX10_hasGiven 28 = .ok (.iconst 1, 1) := by decide +kernel
theorem dX10_hasGiven_29 : decode cX10_hasGiven 29 = .ok (.iadd, 1) := by decide +kernel
theorem dX10_hasGiven_30 : decode cX10_hasGiven 30 = .ok (.iaload, 1) := by decide +kernel
theorem dX10_hasGiven_31 : decode cX10_hasGiven 31 = .ok (.iconst 1, 1) := by decide +kernel
theorem dX10_hasGiven_32 : decode cX10_hasGiven 32 = .ok (.isub, 1) := by decide +kernel
theorem dX10_hasGiven_33 : decode cX10_hasGiven 33 = .ok (.invokestatic 72, 3) := by decide +kernel
theorem dX10_hasGiven_36 : decode cX10_hasGiven 36 = .ok (.ifCond .eq 7, 3) := by decide +kernel
theorem dX10_hasGiven_39 : decode cX10_hasGiven 39 = .ok (.iconst 1, 1) := by decide +kernel
theorem dX10_hasGiven_40 : decode cX10_hasGiven 40 = .ok (.goto 4, 3) := by decide +kernel
theorem dX10_hasGiven_43 : decode cX10_hasGiven 43 = .ok (.iconst 0, 1) := by decide +kernel
theorem dX10_hasGiven_44 : decode cX10_hasGiven 44 = .ok (.ireturn, 1) := by decide +kernel
theorem dX10_sample_0 : decode cX10_sample 0 = .ok (.aload_n 0, 1) := by decide +kernel
theorem dX10_sample_1 : decode cX10_sample 1 = .ok (.iload_n 1, 1) := by decide +kernel
theorem dX10_sample_2 : decode cX10_sample 2 = .ok (.iload_n 2, 1) := by decide +kernel
theorem dX10_sample_3 : decode cX10_sample 3 = .ok (.invokevirtual 250, 3) := by decide +kernel
theorem dX10_sample_6 : decode cX10_sample 6 = .ok (.ifCond .eq 26, 3) := by decide +kernel
theorem dX10_sample_9 : decode cX10_sample 9 = .ok (.aload_n 0, 1) := by decide +kernel
theorem dX10_sample_10 : decode cX10_sample 10 = .ok (.iload_n 1, 1) := by decide +kernel
theorem dX10_sample_11 : decode cX10_sample 11 = .ok (.iload_n 2, 1) := by decide +kernel
theorem dX10_sample_12 : decode cX10_sample 12 = .ok (.invokevirtual 247, 3) := by decide +kernel
theorem dX10_sample_15 : decode cX10_sample 15 = .ok (.ifCond .ne 17, 3) := by decide +kernel
theorem dX10_sample_18 : decode cX10_sample 18 = .ok (.aload_n 0, 1) := by decide +kernel
theorem dX10_sample_19 : decode cX10_sample 19 = .ok (.getfield 7, 3) := by decide +kernel
theorem dX10_sample_22 : decode cX10_sample 22 = .ok (.bipush 82, 2) := by decide +kernel
theorem dX10_sample_24 : decode cX10_sample 24 = .ok (.iload_n 1, 1) := by decide +kernel
theorem dX10_sample_25 : decode cX10_sample 25 = .ok (.imul, 1) := by decide +kernel
theorem dX10_sample_26 : decode cX10_sample 26 = .ok (.iload_n 2, 1) := by decide +kernel
theorem dX10_sample_27 : decode cX10_sample 27 = .ok (.iadd, 1) := by decide +kernel
theorem dX10_sample_28 : decode cX10_sample 28 = .ok (.daload, 1) := by decide +kernel
theorem dX10_sample_29 : decode cX10_sample 29 = .ok (.goto 4, 3) := by decide +kernel
theorem dX10_sample_32 : decode cX10_sample 32 = .ok (.dconst 0, 1) := by decide +kernel
theorem dX10_sample_33 : decode cX10_sample 33 = .ok (.dreturn, 1) := by decide +kernel
theorem dX10_isNone_0 : decode cX10_isNone 0 = .ok (.aload_n 0, 1) := by decide +kernel
theorem dX10_isNone_1 : decode cX10_isNone 1 = .ok (.iload_n 1, 1) := by decide +kernel
theorem dX10_isNone_2 : decode cX10_isNone 2 = .ok (.iload_n 2, 1) := by decide +kernel
theorem dX10_isNone_3 : decode cX10_isNone 3 = .ok (.invokevirtual 250, 3) := by decide +kernel
theorem dX10_isNone_6 : decode cX10_isNone 6 = .ok (.ifCond .eq 28, 3) := by decide +kernel
theorem dX10_isNone_9 : decode cX10_isNone 9 = .ok (.aload_n 0, 1) := by decide +kernel
theorem dX10_isNone_10 : decode cX10_isNone 10 = .ok (.getfield 13, 3) := by decide +kernel
theorem dX10_isNone_13 : decode cX10_isNone 13 = .ok (.aload_n 0, 1) := by decide +kernel
theorem dX10_isNone_14 : decode cX10_isNone 14 = .ok (.iload_n 1, 1) := by decide +kernel
theorem dX10_isNone_15 : decode cX10_isNone 15 = .ok (.iconst 0, 1) := by decide +kernel
theorem dX10_isNone_16 : decode cX10_isNone 16 = .ok (.invokevirtual 91, 3) := by decide +kernel
theorem dX10_isNone_19 : decode cX10_isNone 19 = .ok (.iconst 2, 1) := by decide +kernel
theorem dX10_isNone_20 : decode cX10_isNone 20 = .ok (.iadd, 1) := by decide +kernel
theorem dX10_isNone_21 : decode cX10_isNone 21 = .ok (.iaload, 1) := by decide +kernel
theorem dX10_isNone_22 : decode cX10_isNone 22 = .ok (.iload_n 2, 1) := by decide +kernel
theorem dX10_isNone_23 : decode cX10_isNone 23 = .ok (.ishr, 1) := by decide +kernel
theorem dX10_isNone_24 : decode cX10_isNone 24 = .ok (.iconst 1, 1) := by decide +kernel
theorem dX10_isNone_25 : decode cX10_isNone 25 = .ok (.iand, 1) := by decide +kernel
theorem dX10_isNone_26 : decode cX10_isNone 26 = .ok (.iconst 1, 1) := by decide +kernel
theorem dX10_isNone_27 : decode cX10_isNone 27 = .ok (.if_icmp .ne 7, 3) := by decide +kernel
theorem dX10_isNone_30 : decode cX10_isNone 30 = .ok (.iconst 1, 1) := by decide +kernel
theorem dX10_isNone_31 : decode cX10_isNone 31 = .ok (.goto 4, 3) := by decide +kernel
theorem dX10_isNone_34 : decode cX10_isNone 34 = .ok (.iconst 0, 1) := by decide +kernel
theorem dX10_isNone_35 : decode cX10_isNone 35 = .ok (.ireturn, 1) := by decide +kernel
theorem dX10_order_0 : decode cX10_order 0 = .ok (.iload_n 1, 1) := by decide +kernel
theorem dX10_order_1 : decode cX10_order 1 = .ok (.iconst 0, 1) := by decide +kernel
theorem dX10_order_2 : decode cX10_order 2 = .ok (.aload_n 0, 1) := by decide +kernel
theorem dX10_order_3 : decode cX10_order 3 = .ok (.getfield 68, 3) := by decide +kernel
theorem dX10_order_6 : decode cX10_order 6 = .ok (.iconst 1, 1) := by decide +kernel
theorem dX10_order_7 : decode cX10_order 7 = .ok (.isub, 1) := by decide +kernel
theorem dX10_order_8 : decode cX10_order 8 = .ok (.invokestatic 72, 3) := by decide +kernel
theorem dX10_order_11 : decode cX10_order 11 = .ok (.ifCond .ne 5, 3) := by decide +kernel
theorem dX10_order_14 : decode cX10_order 14 = .ok (.iconst (-1), 1) := by decide +kernel
theorem dX10_order_15 : decode cX10_order 15 = .ok (.ireturn, 1) := by decide +kernel
theorem dX10_order_16 : decode cX10_order 16 = .ok (.aload_n 0, 1) := by decide +kernel
theorem dX10_order_17 : decode cX10_order 17 = .ok (.invokevirtual 216, 3) := by decide +kernel
theorem dX10_order_20 : decode cX10_order 20 = .ok (.aload_n 0, 1) := by decide +kernel
theorem dX10_order_21 : decode cX10_order 21 = .ok (.getfield 35, 3) := by decide +kernel
theorem dX10_order_24 : decode cX10_order 24 = .ok (.iload_n 1, 1) := by decide +kernel
theorem dX10_order_25 : decode cX10_order 25 = .ok (.iaload, 1) := by decide +kernel
theorem dX10_order_26 : decode cX10_order 26 = .ok (.ireturn, 1) := by decide +kernel
theorem dX10_trace_0 : decode cX10_trace 0 = .ok (.iload_n 1, 1) := by decide +kernel
theorem dX10_trace_1 : decode cX10_trace 1 = .ok (.iconst 0, 1) := by decide +kernel
theorem dX10_trace_2 : decode cX10_trace 2 = .ok (.aload_n 0, 1) := by decide +kernel
theorem dX10_trace_3 : decode cX10_trace 3 = .ok (.getfield 210, 3) := by decide +kernel
theorem dX10_trace_6 : decode cX10_trace 6 = .ok (.iconst 1, 1) := by decide +kernel
theorem dX10_trace_7 : decode cX10_trace 7 = .ok (.isub, 1) := by decide +kernel
theorem dX10_trace_8 : decode cX10_trace 8 = .ok (.invokestatic 72, 3) := by decide +kernel
theorem dX10_trace_11 : decode cX10_trace 11 = .ok (.ifCond .eq 12, 3) := by decide +kernel
theorem dX10_trace_14 : decode cX10_trace 14 = .ok (.aload_n 0, 1) := by decide +kernel
theorem dX10_trace_15 : decode cX10_trace 15 = .ok (.getfield 38, 3) := by decide +kernel
theorem dX10_trace_18 : decode cX10_trace 18 = .ok (.iload_n 1, 1) := by decide +kernel
theorem dX10_trace_19 : decode cX10_trace 19 = .ok (.iaload, 1) := by decide +kernel
theorem dX10_trace_20 : decode cX10_trace 20 = .ok (.goto 4, 3) := by decide +kernel
theorem dX10_trace_23 : decode cX10_trace 23 = .ok (.iconst 0, 1) := by decide +kernel
theorem dX10_trace_24 : decode cX10_trace 24 = .ok (.ireturn, 1) := by decide +kernel
theorem dX10_finding_0 : decode cX10_finding 0 = .ok (.aload_n 0, 1) := by decide +kernel
theorem dX10_finding_1 : decode cX10_finding 1 = .ok (.getfield 94, 3) := by decide +kernel
theorem dX10_finding_4 : decode cX10_finding 4 = .ok (.ifCond .eq 12, 3) := by decide +kernel
theorem dX10_finding_7 : decode cX10_finding 7 = .ok (.iload_n 1, 1) := by decide +kernel
theorem dX10_finding_8 : decode cX10_finding 8 = .ok (.iconst 0, 1) := by decide +kernel
theorem dX10_finding_9 : decode cX10_finding 9 = .ok (.iconst 2, 1) := by decide +kernel
theorem dX10_finding_10 : decode cX10_finding 10 = .ok (.invokestatic 72, 3) := by decide +kernel
theorem dX10_finding_13 : decode cX10_finding 13 = .ok (.ifCond .ne 5, 3) := by decide +kernel
theorem dX10_finding_16 : decode cX10_finding 16 = .ok (.iconst (-1), 1) := by decide +kernel
theorem dX10_finding_17 : decode cX10_finding 17 = .ok (.ireturn, 1) := by decide +kernel
theorem dX10_finding_18 : decode cX10_finding 18 = .ok (.iload_n 1, 1) := by decide +kernel
theorem dX10_finding_19 : decode cX10_finding 19 = .ok (.ifCond .ne 10, 3) := by decide +kernel
theorem dX10_finding_22 : decode cX10_finding 22 = .ok (.aload_n 0, 1) := by decide +kernel
theorem dX10_finding_23 : decode cX10_finding 23 = .ok (.getfield 94, 3) := by decide +kernel
theorem dX10_finding_26 : decode cX10_finding 26 = .ok (.goto 19, 3) := by decide +kernel
theorem dX10_finding_29 : decode cX10_finding 29 = .ok (.iload_n 1, 1) := by decide +kernel
theorem dX10_finding_30 : decode cX10_finding 30 = .ok (.iconst 1, 1) := by decide +kernel
theorem dX10_finding_31 : decode cX10_finding 31 = .ok (.if_icmp .ne 10, 3) := by decide +kernel
theorem dX10_finding_34 : decode cX10_finding 34 = .ok (.aload_n 0, 1) := by decide +kernel
theorem dX10_finding_35 : decode cX10_finding 35 = .ok (.getfield 97, 3) := by decide +kernel
theorem dX10_finding_38 : decode cX10_finding 38 = .ok (.goto 7, 3) := by decide +kernel
theorem dX10_finding_41 : decode cX10_finding 41 = .ok (.aload_n 0, 1) := by decide +kernel
theorem dX10_finding_42 : decode cX10_finding 42 = .ok (.getfield 100, 3) := by decide +kernel
theorem dX10_finding_45 : decode cX10_finding 45 = .ok (.ireturn, 1) := by decide +kernel
theorem dX10_count_0 : decode cX10_count 0 = .ok (.iload_n 1, 1) := by decide +kernel
theorem dX10_count_1 : decode cX10_count 1 = .ok (.bipush 10, 2) := by decide +kernel
theorem dX10_count_3 : decode cX10_count 3 = .ok (.bipush 9, 2) := by decide +kernel
theorem dX10_count_5 : decode cX10_count 5 = .ok (.aload_n 0, 1) := by decide +kernel
theorem dX10_count_6 : decode cX10_count 6 = .ok (.getfield 68, 3) := by decide +kernel
theorem dX10_count_9 : decode cX10_count 9 = .ok (.iadd, 1) := by decide +kernel
theorem dX10_count_10 : decode cX10_count 10 = .ok (.invokestatic 72, 3) := by decide +kernel
theorem dX10_count_13 : decode cX10_count 13 = .ok (.ifCond .eq 19, 3) := by decide +kernel
theorem dX10_count_16 : decode cX10_count 16 = .ok (.aload_n 0, 1) := by decide +kernel
theorem dX10_count_17 : decode cX10_count 17 = .ok (.getfield 13, 3) := by decide +kernel
theorem dX10_count_20 : decode cX10_count 20 = .ok (.bipush 20, 2) := by decide +kernel
theorem dX10_count_22 : decode cX10_count 22 = .ok (.iload_n 1, 1) := by decide +kernel
theorem dX10_count_23 : decode cX10_count 23 = .ok (.bipush 10, 2) := by decide +kernel
theorem dX10_count_25 : decode cX10_count 25 = .ok (.isub, 1) := by decide +kernel
theorem dX10_count_26 : decode cX10_count 26 = .ok (.imul, 1) := by decide +kernel
theorem dX10_count_27 : decode cX10_count 27 = .ok (.bipush 17, 2) := by decide +kernel
theorem dX10_count_29 : decode cX10_count 29 = .ok (.iadd, 1) := by decide +kernel
theorem dX10_count_30 : decode cX10_count 30 = .ok (.iaload, 1) := by decide +kernel
theorem dX10_count_31 : decode cX10_count 31 = .ok (.ireturn, 1) := by decide +kernel
theorem dX10_count_32 : decode cX10_count 32 = .ok (.iload_n 1, 1) := by decide +kernel
theorem dX10_count_33 : decode cX10_count 33 = .ok (.bipush 40, 2) := by decide +kernel
theorem dX10_count_35 : decode cX10_count 35 = .ok (.bipush 39, 2) := by decide +kernel
theorem dX10_count_37 : decode cX10_count 37 = .ok (.aload_n 0, 1) := by decide +kernel
theorem dX10_count_38 : decode cX10_count 38 = .ok (.getfield 68, 3) := by decide +kernel
theorem dX10_count_41 : decode cX10_count 41 = .ok (.iadd, 1) := by decide +kernel
theorem dX10_count_42 : decode cX10_count 42 = .ok (.invokestatic 72, 3) := by decide +kernel
theorem dX10_count_45 : decode cX10_count 45 = .ok (.ifCond .eq 13, 3) := by decide +kernel
theorem dX10_count_48 : decode cX10_count 48 = .ok (.aload_n 0, 1) := by decide +kernel
theorem dX10_count_49 : decode cX10_count 49 = .ok (.getfield 17, 3) := by decide +kernel
theorem dX10_count_52 : decode cX10_count 52 = .ok (.iload_n 1, 1) := by decide +kernel
theorem dX10_count_53 : decode cX10_count 53 = .ok (.bipush 40, 2) := by decide +kernel
theorem dX10_count_55 : decode cX10_count 55 = .ok (.isub, 1) := by decide +kernel
theorem dX10_count_56 : decode cX10_count 56 = .ok (.iaload, 1) := by decide +kernel
theorem dX10_count_57 : decode cX10_count 57 = .ok (.ireturn, 1) := by decide +kernel
theorem dX10_count_58 : decode cX10_count 58 = .ok (.iconst 0, 1) := by decide +kernel
theorem dX10_count_59 : decode cX10_count 59 = .ok (.istore_n 2, 1) := by decide +kernel
theorem dX10_count_60 : decode cX10_count 60 = .ok (.iconst 0, 1) := by decide +kernel
theorem dX10_count_61 : decode cX10_count 61 = .ok (.istore_n 3, 1) := by decide +kernel
theorem dX10_count_62 : decode cX10_count 62 = .ok (.iload_n 3, 1) := by decide +kernel
theorem dX10_count_63 : decode cX10_count 63 = .ok (.bipush 72, 2) := by decide +kernel
theorem dX10_count_65 : decode cX10_count 65 = .ok (.if_icmp .ge 26, 3) := by decide +kernel
theorem dX10_count_68 : decode cX10_count 68 = .ok (.iload_n 2, 1) := by decide +kernel
theorem dX10_count_69 : decode cX10_count 69 = .ok (.aload_n 0, 1) := by decide +kernel
theorem dX10_count_70 : decode cX10_count 70 = .ok (.getfield 26, 3) := by decide +kernel
theorem dX10_count_73 : decode cX10_count 73 = .ok (.iload_n 3, 1) := by decide +kernel
theorem dX10_count_74 : decode cX10_count 74 = .ok (.iaload, 1) := by decide +kernel
theorem dX10_count_75 : decode cX10_count 75 = .ok (.ifCond .le 7, 3) := by decide +kernel
theorem dX10_count_78 : decode cX10_count 78 = .ok (.iconst 1, 1) := by decide +kernel
theorem dX10_count_79 : decode cX10_count 79 = .ok (.goto 4, 3) := by decide +kernel
theorem dX10_count_82 : decode cX10_count 82 = .ok (.iconst 0, 1) := by decide +kernel
theorem dX10_count_83 : decode cX10_count 83 = .ok (.iadd, 1) := by decide +kernel
theorem dX10_count_84 : decode cX10_count 84 = .ok (.istore_n 2, 1) := by decide +kernel
theorem dX10_count_85 : decode cX10_count 85 = .ok (.iinc 3 1, 3) := by decide +kernel
theorem dX10_count_88 : decode cX10_count 88 = .ok (.goto (-26), 3) := by decide +kernel
theorem dX10_count_91 : decode cX10_count 91 = .ok (.iload_n 1, 1) := by decide +kernel
theorem dX10_count_92 : decode cX10_count 92 = .ok (.tableswitch 58 0 4 #[36, 41, 43, 48, 53], 36) := by decide +kernel
theorem dX10_count_128 : decode cX10_count 128 = .ok (.aload_n 0, 1) := by decide +kernel
theorem dX10_count_129 : decode cX10_count 129 = .ok (.getfield 68, 3) := by decide +kernel
theorem dX10_count_132 : decode cX10_count 132 = .ok (.ireturn, 1) := by decide +kernel
theorem dX10_count_133 : decode cX10_count 133 = .ok (.iload_n 2, 1) := by decide +kernel
theorem dX10_count_134 : decode cX10_count 134 = .ok (.ireturn, 1) := by decide +kernel
theorem dX10_count_135 : decode cX10_count 135 = .ok (.aload_n 0, 1) := by decide +kernel
theorem dX10_count_136 : decode cX10_count 136 = .ok (.getfield 231, 3) := by decide +kernel
theorem dX10_count_139 : decode cX10_count 139 = .ok (.ireturn, 1) := by decide +kernel
theorem dX10_count_140 : decode cX10_count 140 = .ok (.aload_n 0, 1) := by decide +kernel
theorem dX10_count_141 : decode cX10_count 141 = .ok (.getfield 228, 3) := by decide +kernel
theorem dX10_count_144 : decode cX10_count 144 = .ok (.ireturn, 1) := by decide +kernel
theorem dX10_count_145 : decode cX10_count 145 = .ok (.aload_n 0, 1) := by decide +kernel
theorem dX10_count_146 : decode cX10_count 146 = .ok (.getfield 234, 3) := by decide +kernel
theorem dX10_count_149 : decode cX10_count 149 = .ok (.ireturn, 1) := by decide +kernel
theorem dX10_count_150 : decode cX10_count 150 = .ok (.iconst (-1), 1) := by decide +kernel
theorem dX10_count_151 : decode cX10_count 151 = .ok (.ireturn, 1) := by decide +kernel
theorem dJ6_bitCount_0f7a4_0 : decode cJ6_bitCount_0f7a4 0 = .ok (.iload_n 0, 1) := by decide +kernel
theorem dJ6_bitCount_0f7a4_1 : decode cJ6_bitCount_0f7a4 1 = .ok (.iload_n 0, 1) := by decide +kernel
theorem dJ6_bitCount_0f7a4_2 : decode cJ6_bitCount_0f7a4 2 = .ok (.iconst 1, 1) := by decide +kernel
theorem dJ6_bitCount_0f7a4_3 : decode cJ6_bitCount_0f7a4 3 = .ok (.iushr, 1) := by decide +kernel
theorem dJ6_bitCount_0f7a4_4 : decode cJ6_bitCount_0f7a4 4 = .ok (.ldc_w 265, 3) := by decide +kernel
theorem dJ6_bitCount_0f7a4_7 : decode cJ6_bitCount_0f7a4 7 = .ok (.iand, 1) := by decide +kernel
theorem dJ6_bitCount_0f7a4_8 : decode cJ6_bitCount_0f7a4 8 = .ok (.isub, 1) := by decide +kernel
theorem dJ6_bitCount_0f7a4_9 : decode cJ6_bitCount_0f7a4 9 = .ok (.istore_n 0, 1) := by decide +kernel
theorem dJ6_bitCount_0f7a4_10 : decode cJ6_bitCount_0f7a4 10 = .ok (.iload_n 0, 1) := by decide +kernel
theorem dJ6_bitCount_0f7a4_11 : decode cJ6_bitCount_0f7a4 11 = .ok (.ldc_w 266, 3) := by decide +kernel
theorem dJ6_bitCount_0f7a4_14 : decode cJ6_bitCount_0f7a4 14 = .ok (.iand, 1) := by decide +kernel
theorem dJ6_bitCount_0f7a4_15 : decode cJ6_bitCount_0f7a4 15 = .ok (.iload_n 0, 1) := by decide +kernel
theorem dJ6_bitCount_0f7a4_16 : decode cJ6_bitCount_0f7a4 16 = .ok (.iconst 2, 1) := by decide +kernel
theorem dJ6_bitCount_0f7a4_17 : decode cJ6_bitCount_0f7a4 17 = .ok (.iushr, 1) := by decide +kernel
theorem dJ6_bitCount_0f7a4_18 : decode cJ6_bitCount_0f7a4 18 = .ok (.ldc_w 266, 3) := by decide +kernel
theorem dJ6_bitCount_0f7a4_21 : decode cJ6_bitCount_0f7a4 21 = .ok (.iand, 1) := by decide +kernel
theorem dJ6_bitCount_0f7a4_22 : decode cJ6_bitCount_0f7a4 22 = .ok (.iadd, 1) := by decide +kernel
theorem dJ6_bitCount_0f7a4_23 : decode cJ6_bitCount_0f7a4 23 = .ok (.istore_n 0, 1) := by decide +kernel
theorem dJ6_bitCount_0f7a4_24 : decode cJ6_bitCount_0f7a4 24 = .ok (.iload_n 0, 1) := by decide +kernel
theorem dJ6_bitCount_0f7a4_25 : decode cJ6_bitCount_0f7a4 25 = .ok (.iload_n 0, 1) := by decide +kernel
theorem dJ6_bitCount_0f7a4_26 : decode cJ6_bitCount_0f7a4 26 = .ok (.iconst 4, 1) := by decide +kernel
theorem dJ6_bitCount_0f7a4_27 : decode cJ6_bitCount_0f7a4 27 = .ok (.iushr, 1) := by decide +kernel
theorem dJ6_bitCount_0f7a4_28 : decode cJ6_bitCount_0f7a4 28 = .ok (.iadd, 1) := by decide +kernel
theorem dJ6_bitCount_0f7a4_29 : decode cJ6_bitCount_0f7a4 29 = .ok (.ldc_w 267, 3) := by decide +kernel
theorem dJ6_bitCount_0f7a4_32 : decode cJ6_bitCount_0f7a4 32 = .ok (.iand, 1) := by decide +kernel
theorem dJ6_bitCount_0f7a4_33 : decode cJ6_bitCount_0f7a4 33 = .ok (.istore_n 0, 1) := by decide +kernel
theorem dJ6_bitCount_0f7a4_34 : decode cJ6_bitCount_0f7a4 34 = .ok (.iload_n 0, 1) := by decide +kernel
theorem dJ6_bitCount_0f7a4_35 : decode cJ6_bitCount_0f7a4 35 = .ok (.iload_n 0, 1) := by decide +kernel
theorem dJ6_bitCount_0f7a4_36 : decode cJ6_bitCount_0f7a4 36 = .ok (.bipush 8, 2) := by decide +kernel
theorem dJ6_bitCount_0f7a4_38 : decode cJ6_bitCount_0f7a4 38 = .ok (.iushr, 1) := by decide +kernel
theorem dJ6_bitCount_0f7a4_39 : decode cJ6_bitCount_0f7a4 39 = .ok (.iadd, 1) := by decide +kernel
theorem dJ6_bitCount_0f7a4_40 : decode cJ6_bitCount_0f7a4 40 = .ok (.istore_n 0, 1) := by decide +kernel
theorem dJ6_bitCount_0f7a4_41 : decode cJ6_bitCount_0f7a4 41 = .ok (.iload_n 0, 1) := by decide +kernel
theorem dJ6_bitCount_0f7a4_42 : decode cJ6_bitCount_0f7a4 42 = .ok (.iload_n 0, 1) := by decide +kernel
theorem dJ6_bitCount_0f7a4_43 : decode cJ6_bitCount_0f7a4 43 = .ok (.bipush 16, 2) := by decide +kernel
theorem dJ6_bitCount_0f7a4_45 : decode cJ6_bitCount_0f7a4 45 = .ok (.iushr, 1) := by decide +kernel
theorem dJ6_bitCount_0f7a4_46 : decode cJ6_bitCount_0f7a4 46 = .ok (.iadd, 1) := by decide +kernel
theorem dJ6_bitCount_0f7a4_47 : decode cJ6_bitCount_0f7a4 47 = .ok (.istore_n 0, 1) := by decide +kernel
theorem dJ6_bitCount_0f7a4_48 : decode cJ6_bitCount_0f7a4 48 = .ok (.iload_n 0, 1) := by decide +kernel
theorem dJ6_bitCount_0f7a4_49 : decode cJ6_bitCount_0f7a4 49 = .ok (.bipush 63, 2) := by decide +kernel
theorem dJ6_bitCount_0f7a4_51 : decode cJ6_bitCount_0f7a4 51 = .ok (.iand, 1) := by decide +kernel
theorem dJ6_bitCount_0f7a4_52 : decode cJ6_bitCount_0f7a4 52 = .ok (.ireturn, 1) := by decide +kernel
theorem dJ9_floorMod_7cf53_0 : decode cJ9_floorMod_7cf53 0 = .ok (.iload_n 0, 1) := by decide +kernel
theorem dJ9_floorMod_7cf53_1 : decode cJ9_floorMod_7cf53 1 = .ok (.iload_n 1, 1) := by decide +kernel
theorem dJ9_floorMod_7cf53_2 : decode cJ9_floorMod_7cf53 2 = .ok (.irem, 1) := by decide +kernel
theorem dJ9_floorMod_7cf53_3 : decode cJ9_floorMod_7cf53 3 = .ok (.istore_n 2, 1) := by decide +kernel
theorem dJ9_floorMod_7cf53_4 : decode cJ9_floorMod_7cf53 4 = .ok (.iload_n 0, 1) := by decide +kernel
theorem dJ9_floorMod_7cf53_5 : decode cJ9_floorMod_7cf53 5 = .ok (.iload_n 1, 1) := by decide +kernel
theorem dJ9_floorMod_7cf53_6 : decode cJ9_floorMod_7cf53 6 = .ok (.ixor, 1) := by decide +kernel
theorem dJ9_floorMod_7cf53_7 : decode cJ9_floorMod_7cf53 7 = .ok (.ifCond .ge 11, 3) := by decide +kernel
theorem dJ9_floorMod_7cf53_10 : decode cJ9_floorMod_7cf53 10 = .ok (.iload_n 2, 1) := by decide +kernel
theorem dJ9_floorMod_7cf53_11 : decode cJ9_floorMod_7cf53 11 = .ok (.ifCond .eq 7, 3) := by decide +kernel
theorem dJ9_floorMod_7cf53_14 : decode cJ9_floorMod_7cf53 14 = .ok (.iload_n 2, 1) := by decide +kernel
theorem dJ9_floorMod_7cf53_15 : decode cJ9_floorMod_7cf53 15 = .ok (.iload_n 1, 1) := by decide +kernel
theorem dJ9_floorMod_7cf53_16 : decode cJ9_floorMod_7cf53 16 = .ok (.iadd, 1) := by decide +kernel
theorem dJ9_floorMod_7cf53_17 : decode cJ9_floorMod_7cf53 17 = .ok (.ireturn, 1) := by decide +kernel
theorem dJ9_floorMod_7cf53_18 : decode cJ9_floorMod_7cf53 18 = .ok (.iload_n 2, 1) := by decide +kernel
theorem dJ9_floorMod_7cf53_19 : decode cJ9_floorMod_7cf53 19 = .ok (.ireturn, 1) := by decide +kernel
theorem dJ9_max_7cf53_0 : decode cJ9_max_7cf53 0 = .ok (.iload_n 0, 1) := by decide +kernel
theorem dJ9_max_7cf53_1 : decode cJ9_max_7cf53 1 = .ok (.iload_n 1, 1) := by decide +kernel
theorem dJ9_max_7cf53_2 : decode cJ9_max_7cf53 2 = .ok (.if_icmp .lt 7, 3) := by decide +kernel
theorem dJ9_max_7cf53_5 : decode cJ9_max_7cf53 5 = .ok (.iload_n 0, 1) := by decide +kernel
theorem dJ9_max_7cf53_6 : decode cJ9_max_7cf53 6 = .ok (.goto 4, 3) := by decide +kernel
theorem dJ9_max_7cf53_9 : decode cJ9_max_7cf53 9 = .ok (.iload_n 1, 1) := by decide +kernel
theorem dJ9_max_7cf53_10 : decode cJ9_max_7cf53 10 = .ok (.ireturn, 1) := by decide +kernel
theorem dJ9_min_7cf53_0 : decode cJ9_min_7cf53 0 = .ok (.iload_n 0, 1) := by decide +kernel
theorem dJ9_min_7cf53_1 : decode cJ9_min_7cf53 1 = .ok (.iload_n 1, 1) := by decide +kernel
theorem dJ9_min_7cf53_2 : decode cJ9_min_7cf53 2 = .ok (.if_icmp .gt 7, 3) := by decide +kernel
theorem dJ9_min_7cf53_5 : decode cJ9_min_7cf53 5 = .ok (.iload_n 0, 1) := by decide +kernel
theorem dJ9_min_7cf53_6 : decode cJ9_min_7cf53 6 = .ok (.goto 4, 3) := by decide +kernel
theorem dJ9_min_7cf53_9 : decode cJ9_min_7cf53 9 = .ok (.iload_n 1, 1) := by decide +kernel
theorem dJ9_min_7cf53_10 : decode cJ9_min_7cf53 10 = .ok (.ireturn, 1) := by decide +kernel
theorem dL_law_0 : decode cL_law 0 = .ok (.new 7, 3) := by decide +kernel
theorem dL_law_3 : decode cL_law 3 = .ok (.dup, 1) := by decide +kernel
theorem dL_law_4 : decode cL_law 4 = .ok (.invokespecial 9, 3) := by decide +kernel
theorem dL_law_7 : decode cL_law 7 = .ok (.astore_n 1, 1) := by decide +kernel
theorem dL_law_8 : decode cL_law 8 = .ok (.new 10, 3) := by decide +kernel
theorem dL_law_11 : decode cL_law 11 = .ok (.dup, 1) := by decide +kernel
theorem dL_law_12 : decode cL_law 12 = .ok (.invokespecial 12, 3) := by decide +kernel
theorem dL_law_15 : decode cL_law 15 = .ok (.astore_n 2, 1) := by decide +kernel
theorem dL_law_16 : decode cL_law 16 = .ok (.iconst 0, 1) := by decide +kernel
theorem dL_law_17 : decode cL_law 17 = .ok (.istore_n 3, 1) := by decide +kernel
theorem dL_law_18 : decode cL_law 18 = .ok (.iload_n 3, 1) := by decide +kernel
theorem dL_law_19 : decode cL_law 19 = .ok (.aload_n 0, 1) := by decide +kernel
theorem dL_law_20 : decode cL_law 20 = .ok (.arraylength, 1) := by decide +kernel
theorem dL_law_21 : decode cL_law 21 = .ok (.iconst 4, 1) := by decide +kernel
theorem dL_law_22 : decode cL_law 22 = .ok (.isub, 1) := by decide +kernel
theorem dL_law_23 : decode cL_law 23 = .ok (.if_icmp .gt 702, 3) := by decide +kernel
theorem dL_law_26 : decode cL_law 26 = .ok (.aload_n 0, 1) := by decide +kernel
theorem dL_law_27 : decode cL_law 27 = .ok (.iload_n 3, 1) := by decide +kernel
theorem dL_law_28 : decode cL_law 28 = .ok (.iaload, 1) := by decide +kernel
theorem dL_law_29 : decode cL_law 29 = .ok (.bipush 31, 2) := by decide +kernel
theorem dL_law_31 : decode cL_law 31 = .ok (.iand, 1) := by decide +kernel
theorem dL_law_32 : decode cL_law 32 = .ok (.tableswitch 687 0 18 #[92, 125, 168, 201, 244, 277, 320, 343, 366, 389, 412, 435, 468, 501, 562, 595, 618, 641, 664], 92) := by decide +kernel
theorem dL_law_124 : decode cL_law 124 = .ok (.aload_n 1, 1) := by decide +kernel
theorem dL_law_125 : decode cL_law 125 = .ok (.aload_n 0, 1) := by decide +kernel
theorem dL_law_126 : decode cL_law 126 = .ok (.iload_n 3, 1) := by decide +kernel
theorem dL_law_127 : decode cL_law 127 = .ok (.iconst 1, 1) := by decide +kernel
theorem dL_law_128 : decode cL_law 128 = .ok (.iadd, 1) := by decide +kernel
theorem dL_law_129 : decode cL_law 129 = .ok (.iaload, 1) := by decide +kernel
theorem dL_law_130 : decode cL_law 130 = .ok (.aload_n 0, 1) := by decide +kernel
theorem dL_law_131 : decode cL_law 131 = .ok (.iload_n 3, 1) := by decide +kernel
theorem dL_law_132 : decode cL_law 132 = .ok (.iconst 2, 1) := by decide +kernel
theorem dL_law_133 : decode cL_law 133 = .ok (.iadd, 1) := by decide +kernel
theorem dL_law_134 : decode cL_law 134 = .ok (.iaload, 1) := by decide +kernel
theorem dL_law_135 : decode cL_law 135 = .ok (.invokevirtual 13, 3) := by decide +kernel
theorem dL_law_138 : decode cL_law 138 = .ok (.aload_n 2, 1) := by decide +kernel
theorem dL_law_139 : decode cL_law 139 = .ok (.aload_n 0, 1) := by decide +kernel
theorem dL_law_140 : decode cL_law 140 = .ok (.iload_n 3, 1) := by decide +kernel
theorem dL_law_141 : decode cL_law 141 = .ok (.iconst 1, 1) := by decide +kernel
theorem dL_law_142 : decode cL_law 142 = .ok (.iadd, 1) := by decide +kernel
theorem dL_law_143 : decode cL_law 143 = .ok (.iaload, 1) := by decide +kernel
theorem dL_law_144 : decode cL_law 144 = .ok (.aload_n 0, 1) := by decide +kernel
theorem dL_law_145 : decode cL_law 145 = .ok (.iload_n 3, 1) := by decide +kernel
theorem dL_law_146 : decode cL_law 146 = .ok (.iconst 2, 1) := by decide +kernel
theorem dL_law_147 : decode cL_law 147 = .ok (.iadd, 1) := by decide +kernel
theorem dL_law_148 : decode cL_law 148 = .ok (.iaload, 1) := by decide +kernel
theorem dL_law_149 : decode cL_law 149 = .ok (.invokevirtual 17, 3) := by decide +kernel
theorem dL_law_152 : decode cL_law 152 = .ok (.if_icmp .eq 567, 3) := by decide +kernel
theorem dL_law_155 : decode cL_law 155 = .ok (.iconst 0, 1) := by decide +kernel
theorem dL_law_156 : decode cL_law 156 = .ok (.ireturn, 1) := by decide +kernel
theorem dL_law_157 : decode cL_law 157 = .ok (.aload_n 1, 1) := by decide +kernel
theorem dL_law_158 : decode cL_law 158 = .ok (.aload_n 0, 1) := by decide +kernel
theorem dL_law_159 : decode cL_law 159 = .ok (.iload_n 3, 1) := by decide +kernel
theorem dL_law_160 : decode cL_law 160 = .ok (.iconst 1, 1) := by decide +kernel
theorem dL_law_161 : decode cL_law 161 = .ok (.iadd, 1) := by decide +kernel
theorem dL_law_162 : decode cL_law 162 = .ok (.iaload, 1) := by decide +kernel
theorem dL_law_163 : decode cL_law 163 = .ok (.aload_n 0, 1) := by decide +kernel
theorem dL_law_164 : decode cL_law 164 = .ok (.iload_n 3, 1) := by decide +kernel
theorem dL_law_165 : decode cL_law 165 = .ok (.iconst 2, 1) := by decide +kernel
theorem dL_law_166 : decode cL_law 166 = .ok (.iadd, 1) := by decide +kernel
theorem dL_law_167 : decode cL_law 167 = .ok (.iaload, 1) := by decide +kernel
theorem dL_law_168 : decode cL_law 168 = .ok (.aload_n 0, 1) := by decide +kernel
theorem dL_law_169 : decode cL_law 169 = .ok (.iload_n 3, 1) := by decide +kernel
theorem dL_law_170 : decode cL_law 170 = .ok (.iconst 3, 1) := by decide +kernel
theorem dL_law_171 : decode cL_law 171 = .ok (.iadd, 1) := by decide +kernel
theorem dL_law_172 : decode cL_law 172 = .ok (.iaload, 1) := by decide +kernel
theorem dL_law_173 : decode cL_law 173 = .ok (.invokevirtual 18, 3) := by decide +kernel
theorem dL_law_176 : decode cL_law 176 = .ok (.aload_n 2, 1) := by decide +kernel
theorem dL_law_177 : decode cL_law 177 = .ok (.aload_n 0, 1) := by decide +kernel
theorem dL_law_178 : decode cL_law 178 = .ok (.iload_n 3, 1) := by decide +kernel
theorem dL_law_179 : decode cL_law 179 = .ok (.iconst 1, 1) := by decide +kernel
theorem dL_law_180 : decode cL_law 180 = .ok (.iadd, 1) := by decide +kernel
theorem dL_law_181 : decode cL_law 181 = .ok (.iaload, 1) := by decide +kernel
theorem dL_law_182 : decode cL_law 182 = .ok (.aload_n 0, 1) := by decide +kernel
theorem dL_law_183 : decode cL_law 183 = .ok (.iload_n 3, 1) := by decide +kernel
theorem dL_law_184 : decode cL_law 184 = .ok (.iconst 2, 1) := by decide +kernel
theorem dL_law_185 : decode cL_law 185 = .ok (.iadd, 1) := by decide +kernel
theorem dL_law_186 : decode cL_law 186 = .ok (.iaload, 1) := by decide +kernel
theorem dL_law_187 : decode cL_law 187 = .ok (.aload_n 0, 1) := by decide +kernel
theorem dL_law_188 : decode cL_law 188 = .ok (.iload_n 3, 1) := by decide +kernel
theorem dL_law_189 : decode cL_law 189 = .ok (.iconst 3, 1) := by decide +kernel
theorem dL_law_190 : decode cL_law 190 = .ok (.iadd, 1) := by decide +kernel
theorem dL_law_191 : decode cL_law 191 = .ok (.iaload, 1) := by decide +kernel
theorem dL_law_192 : decode cL_law 192 = .ok (.invokevirtual 22, 3) := by decide +kernel
theorem dL_law_195 : decode cL_law 195 = .ok (.if_icmp .eq 524, 3) := by decide +kernel
theorem dL_law_198 : decode cL_law 198 = .ok (.iconst 0, 1) := by decide +kernel
theorem dL_law_199 : decode cL_law 199 = .ok (.ireturn, 1) := by decide +kernel
theorem dL_law_200 : decode cL_law 200 = .ok (.aload_n 1, 1) := by decide +kernel
theorem dL_law_201 : decode cL_law 201 = .ok (.aload_n 0, 1) := by decide +kernel
theorem dL_law_202 : decode cL_law 202 = .ok (.iload_n 3, 1) := by decide +kernel
theorem dL_law_203 : decode cL_law 203 = .ok (.iconst 1, 1) := by decide +kernel
theorem dL_law_204 : decode cL_law 204 = .ok (.iadd, 1) := by decide +kernel
theorem dL_law_205 : decode cL_law 205 = .ok (.iaload, 1) := by decide +kernel
theorem dL_law_206 : decode cL_law 206 = .ok (.aload_n 0, 1) := by decide +kernel
theorem dL_law_207 : decode cL_law 207 = .ok (.iload_n 3, 1) := by decide +kernel
theorem dL_law_208 : decode cL_law 208 = .ok (.iconst 2, 1) := by decide +kernel
theorem dL_law_209 : decode cL_law 209 = .ok (.iadd, 1) := by decide +kernel
theorem dL_law_210 : decode cL_law 210 = .ok (.iaload, 1) := by decide +kernel
theorem dL_law_211 : decode cL_law 211 = .ok (.invokevirtual 23, 3) := by decide +kernel
theorem dL_law_214 : decode cL_law 214 = .ok (.aload_n 2, 1) := by decide +kernel
theorem dL_law_215 : decode cL_law 215 = .ok (.aload_n 0, 1) := by decide +kernel
theorem dL_law_216 : decode cL_law 216 = .ok (.iload_n 3, 1) := by decide +kernel
theorem dL_law_217 : decode cL_law 217 = .ok (.iconst 1, 1) := by decide +kernel
theorem dL_law_218 : decode cL_law 218 = .ok (.iadd, 1) := by decide +kernel
theorem dL_law_219 : decode cL_law 219 = .ok (.iaload, 1) := by decide +kernel
theorem dL_law_220 : decode cL_law 220 = .ok (.aload_n 0, 1) := by decide +kernel
theorem dL_law_221 : decode cL_law 221 = .ok (.iload_n 3, 1) := by decide +kernel
theorem dL_law_222 : decode cL_law 222 = .ok (.iconst 2, 1) := by decide +kernel
theorem dL_law_223 : decode cL_law 223 = .ok (.iadd, 1) := by decide +kernel
theorem dL_law_224 : decode cL_law 224 = .ok (.iaload, 1) := by decide +kernel
theorem dL_law_225 : decode cL_law 225 = .ok (.invokevirtual 26, 3) := by decide +kernel
theorem dL_law_228 : decode cL_law 228 = .ok (.if_icmp .eq 491, 3) := by decide +kernel
theorem dL_law_231 : decode cL_law 231 = .ok (.iconst 0, 1) := by decide +kernel
theorem dL_law_232 : decode cL_law 232 = .ok (.ireturn, 1) := by decide +kernel
theorem dL_law_233 : decode cL_law 233 = .ok (.aload_n 1, 1) := by decide +kernel
theorem dL_law_234 : decode cL_law 234 = .ok (.aload_n 0, 1) := by decide +kernel
theorem dL_law_235 : decode cL_law 235 = .ok (.iload_n 3, 1) := by decide +kernel
theorem dL_law_236 : decode cL_law 236 = .ok (.iconst 1, 1) := by decide +kernel
theorem dL_law_237 : decode cL_law 237 = .ok (.iadd, 1) := by decide +kernel
theorem dL_law_238 : decode cL_law 238 = .ok (.iaload, 1) := by decide +kernel
theorem dL_law_239 : decode cL_law 239 = .ok (.aload_n 0, 1) := by decide +kernel
theorem dL_law_240 : decode cL_law 240 = .ok (.iload_n 3, 1) := by decide +kernel
theorem dL_law_241 : decode cL_law 241 = .ok (.iconst 2, 1) := by decide +kernel
theorem dL_law_242 : decode cL_law 242 = .ok (.iadd, 1) := by decide +kernel
theorem dL_law_243 : decode cL_law 243 = .ok (.iaload, 1) := by decide +kernel
theorem dL_law_244 : decode cL_law 244 = .ok (.aload_n 0, 1) := by decide +kernel
theorem dL_law_245 : decode cL_law 245 = .ok (.iload_n 3, 1) := by decide +kernel
theorem dL_law_246 : decode cL_law 246 = .ok (.iconst 3, 1) := by decide +kernel
theorem dL_law_247 : decode cL_law 247 = .ok (.iadd, 1) := by decide +kernel
theorem dL_law_248 : decode cL_law 248 = .ok (.iaload, 1) := by decide +kernel
theorem dL_law_249 : decode cL_law 249 = .ok (.invokevirtual 27, 3) := by decide +kernel
theorem dL_law_252 : decode cL_law 252 = .ok (.aload_n 2, 1) := by decide +kernel
theorem dL_law_253 : decode cL_law 253 = .ok (.aload_n 0, 1) := by decide +kernel
theorem dL_law_254 : decode cL_law 254 = .ok (.iload_n 3, 1) := by decide +kernel
theorem dL_law_255 : decode cL_law 255 = .ok (.iconst 1, 1) := by decide +kernel
theorem dL_law_256 : decode cL_law 256 = .ok (.iadd, 1) := by decide +kernel
theorem dL_law_257 : decode cL_law 257 = .ok (.iaload, 1) := by decide +kernel
theorem dL_law_258 : decode cL_law 258 = .ok (.aload_n 0, 1) := by decide +kernel
theorem dL_law_259 : decode cL_law 259 = .ok (.iload_n 3, 1) := by decide +kernel
theorem dL_law_260 : decode cL_law 260 = .ok (.iconst 2, 1) := by decide +kernel
theorem dL_law_261 : decode cL_law 261 = .ok (.iadd, 1) := by decide +kernel
theorem dL_law_262 : decode cL_law 262 = .ok (.iaload, 1) := by decide +kernel
theorem dL_law_263 : decode cL_law 263 = .ok (.aload_n 0, 1) := by decide +kernel
theorem dL_law_264 : decode cL_law 264 = .ok (.iload_n 3, 1) := by decide +kernel
theorem dL_law_265 : decode cL_law 265 = .ok (.iconst 3, 1) := by decide +kernel
theorem dL_law_266 : decode cL_law 266 = .ok (.iadd, 1) := by decide +kernel
theorem dL_law_267 : decode cL_law 267 = .ok (.iaload, 1) := by decide +kernel
theorem dL_law_268 : decode cL_law 268 = .ok (.invokevirtual 30, 3) := by decide +kernel
theorem dL_law_271 : decode cL_law 271 = .ok (.if_icmp .eq 448, 3) := by decide +kernel
theorem dL_law_274 : decode cL_law 274 = .ok (.iconst 0, 1) := by decide +kernel
theorem dL_law_275 : decode cL_law 275 = .ok (.ireturn, 1) := by decide +kernel
theorem dL_law_276 : decode cL_law 276 = .ok (.aload_n 1, 1) := by decide +kernel
theorem dL_law_277 : decode cL_law 277 = .ok (.aload_n 0, 1) := by decide +kernel
theorem dL_law_278 : decode cL_law 278 = .ok (.iload_n 3, 1) := by decide +kernel
theorem dL_law_279 : decode cL_law 279 = .ok (.iconst 1, 1) := by decide +kernel
theorem dL_law_280 : decode cL_law 280 = .ok (.iadd, 1) := by decide +kernel
theorem dL_law_281 : decode cL_law 281 = .ok (.iaload, 1) := by decide +kernel
theorem dL_law_282 : decode cL_law 282 = .ok (.aload_n 0, 1) := by decide +kernel
theorem dL_law_283 : decode cL_law 283 = .ok (.iload_n 3, 1) := by decide +kernel
theorem dL_law_284 : decode cL_law 284 = .ok (.iconst 2, 1) := by decide +kernel
theorem dL_law_285 : decode cL_law 285 = .ok (.iadd, 1) := by decide +kernel
theorem dL_law_286 : decode cL_law 286 = .ok (.iaload, 1) := by decide +kernel
theorem dL_law_287 : decode cL_law 287 = .ok (.invokevirtual 31, 3) := by decide +kernel
theorem dL_law_290 : decode cL_law 290 = .ok (.aload_n 2, 1) := by decide +kernel
theorem dL_law_291 : decode cL_law 291 = .ok (.aload_n 0, 1) := by decide +kernel
theorem dL_law_292 : decode cL_law 292 = .ok (.iload_n 3, 1) := by decide +kernel
theorem dL_law_293 : decode cL_law 293 = .ok (.iconst 1, 1) := by decide +kernel
theorem dL_law_294 : decode cL_law 294 = .ok (.iadd, 1) := by decide +kernel
theorem dL_law_295 : decode cL_law 295 = .ok (.iaload, 1) := by decide +kernel
theorem dL_law_296 : decode cL_law 296 = .ok (.aload_n 0, 1) := by decide +kernel
theorem dL_law_297 : decode cL_law 297 = .ok (.iload_n 3, 1) := by decide +kernel
theorem dL_law_298 : decode cL_law 298 = .ok (.iconst 2, 1) := by decide +kernel
theorem dL_law_299 : decode cL_law 299 = .ok (.iadd, 1) := by decide +kernel
theorem dL_law_300 : decode cL_law 300 = .ok (.iaload, 1) := by decide +kernel
theorem dL_law_301 : decode cL_law 301 = .ok (.invokevirtual 34, 3) := by decide +kernel
theorem dL_law_304 : decode cL_law 304 = .ok (.if_icmp .eq 415, 3) := by decide +kernel
theorem dL_law_307 : decode cL_law 307 = .ok (.iconst 0, 1) := by decide +kernel
theorem dL_law_308 : decode cL_law 308 = .ok (.ireturn, 1) := by decide +kernel
theorem dL_law_309 : decode cL_law 309 = .ok (.aload_n 1, 1) := by decide +kernel
theorem dL_law_310 : decode cL_law 310 = .ok (.aload_n 0, 1) := by decide +kernel
theorem dL_law_311 : decode cL_law 311 = .ok (.iload_n 3, 1) := by decide +kernel
theorem dL_law_312 : decode cL_law 312 = .ok (.iconst 1, 1) := by decide +kernel
theorem dL_law_313 : decode cL_law 313 = .ok (.iadd, 1) := by decide +kernel
theorem dL_law_314 : decode cL_law 314 = .ok (.iaload, 1) := by decide +kernel
theorem dL_law_315 : decode cL_law 315 = .ok (.aload_n 0, 1) := by decide +kernel
theorem dL_law_316 : decode cL_law 316 = .ok (.iload_n 3, 1) := by decide +kernel
theorem dL_law_317 : decode cL_law 317 = .ok (.iconst 2, 1) := by decide +kernel
theorem dL_law_318 : decode cL_law 318 = .ok (.iadd, 1) := by decide +kernel
theorem dL_law_319 : decode cL_law 319 = .ok (.iaload, 1) := by decide +kernel
theorem dL_law_320 : decode cL_law 320 = .ok (.aload_n 0, 1) := by decide +kernel
theorem dL_law_321 : decode cL_law 321 = .ok (.iload_n 3, 1) := by decide +kernel
theorem dL_law_322 : decode cL_law 322 = .ok (.iconst 3, 1) := by decide +kernel
theorem dL_law_323 : decode cL_law 323 = .ok (.iadd, 1) := by decide +kernel
theorem dL_law_324 : decode cL_law 324 = .ok (.iaload, 1) := by decide +kernel
theorem dL_law_325 : decode cL_law 325 = .ok (.invokevirtual 35, 3) := by decide +kernel
theorem dL_law_328 : decode cL_law 328 = .ok (.aload_n 2, 1) := by decide +kernel
theorem dL_law_329 : decode cL_law 329 = .ok (.aload_n 0, 1) := by decide +kernel
theorem dL_law_330 : decode cL_law 330 = .ok (.iload_n 3, 1) := by decide +kernel
theorem dL_law_331 : decode cL_law 331 = .ok (.iconst 1, 1) := by decide +kernel
theorem dL_law_332 : decode cL_law 332 = .ok (.iadd, 1) := by decide +kernel
theorem dL_law_333 : decode cL_law 333 = .ok (.iaload, 1) := by decide +kernel
theorem dL_law_334 : decode cL_law 334 = .ok (.aload_n 0, 1) := by decide +kernel
theorem dL_law_335 : decode cL_law 335 = .ok (.iload_n 3, 1) := by decide +kernel
theorem dL_law_336 : decode cL_law 336 = .ok (.iconst 2, 1) := by decide +kernel
theorem dL_law_337 : decode cL_law 337 = .ok (.iadd, 1) := by decide +kernel
theorem dL_law_338 : decode cL_law 338 = .ok (.iaload, 1) := by decide +kernel
theorem dL_law_339 : decode cL_law 339 = .ok (.aload_n 0, 1) := by decide +kernel
theorem dL_law_340 : decode cL_law 340 = .ok (.iload_n 3, 1) := by decide +kernel
theorem dL_law_341 : decode cL_law 341 = .ok (.iconst 3, 1) := by decide +kernel
theorem dL_law_342 : decode cL_law 342 = .ok (.iadd, 1) := by decide +kernel
theorem dL_law_343 : decode cL_law 343 = .ok (.iaload, 1) := by decide +kernel
theorem dL_law_344 : decode cL_law 344 = .ok (.invokevirtual 38, 3) := by decide +kernel
theorem dL_law_347 : decode cL_law 347 = .ok (.if_icmp .eq 372, 3) := by decide +kernel
theorem dL_law_350 : decode cL_law 350 = .ok (.iconst 0, 1) := by decide +kernel
theorem dL_law_351 : decode cL_law 351 = .ok (.ireturn, 1) := by decide +kernel
theorem dL_law_352 : decode cL_law 352 = .ok (.aload_n 1, 1) := by decide +kernel
theorem dL_law_353 : decode cL_law 353 = .ok (.aload_n 0, 1) := by decide +kernel
theorem dL_law_354 : decode cL_law 354 = .ok (.iload_n 3, 1) := by decide +kernel
theorem dL_law_355 : decode cL_law 355 = .ok (.iconst 1, 1) := by decide +kernel
theorem dL_law_356 : decode cL_law 356 = .ok (.iadd, 1) := by decide +kernel
theorem dL_law_357 : decode cL_law 357 = .ok (.iaload, 1) := by decide +kernel
theorem dL_law_358 : decode cL_law 358 = .ok (.invokevirtual 39, 3) := by decide +kernel
theorem dL_law_361 : decode cL_law 361 = .ok (.aload_n 2, 1) := by decide +kernel
theorem dL_law_362 : decode cL_law 362 = .ok (.aload_n 0, 1) := by decide +kernel
theorem dL_law_363 : decode cL_law 363 = .ok (.iload_n 3, 1) := by decide +kernel
theorem dL_law_364 : decode cL_law 364 = .ok (.iconst 1, 1) := by decide +kernel
theorem dL_law_365 : decode cL_law 365 = .ok (.iadd, 1) := by decide +kernel
theorem dL_law_366 : decode cL_law 366 = .ok (.iaload, 1) := by decide +kernel
theorem dL_law_367 : decode cL_law 367 = .ok (.invokevirtual 43, 3) := by decide +kernel
theorem dL_law_370 : decode cL_law 370 = .ok (.if_icmp .eq 349, 3) := by decide +kernel
theorem dL_law_373 : decode cL_law 373 = .ok (.iconst 0, 1) := by decide +kernel
theorem dL_law_374 : decode cL_law 374 = .ok (.ireturn, 1) := by decide +kernel
theorem dL_law_375 : decode cL_law 375 = .ok (.aload_n 1, 1) := by decide +kernel
theorem dL_law_376 : decode cL_law 376 = .ok (.aload_n 0, 1) := by decide +kernel
theorem dL_law_377 : decode cL_law 377 = .ok (.iload_n 3, 1) := by decide +kernel
theorem dL_law_378 : decode cL_law 378 = .ok (.iconst 1, 1) := by decide +kernel
theorem dL_law_379 : decode cL_law 379 = .ok (.iadd, 1) := by decide +kernel
theorem dL_law_380 : decode cL_law 380 = .ok (.iaload, 1) := by decide +kernel
theorem dL_law_381 : decode cL_law 381 = .ok (.invokevirtual 44, 3) := by decide +kernel
theorem dL_law_384 : decode cL_law 384 = .ok (.aload_n 2, 1) := by decide +kernel
theorem dL_law_385 : decode cL_law 385 = .ok (.aload_n 0, 1) := by decide +kernel
theorem dL_law_386 : decode cL_law 386 = .ok (.iload_n 3, 1) := by decide +kernel
theorem dL_law_387 : decode cL_law 387 = .ok (.iconst 1, 1) := by decide +kernel
theorem dL_law_388 : decode cL_law 388 = .ok (.iadd, 1) := by decide +kernel
theorem dL_law_389 : decode cL_law 389 = .ok (.iaload, 1) := by decide +kernel
theorem dL_law_390 : decode cL_law 390 = .ok (.invokevirtual 47, 3) := by decide +kernel
theorem dL_law_393 : decode cL_law 393 = .ok (.if_icmp .eq 326, 3) := by decide +kernel
theorem dL_law_396 : decode cL_law 396 = .ok (.iconst 0, 1) := by decide +kernel
theorem dL_law_397 : decode cL_law 397 = .ok (.ireturn, 1) := by decide +kernel
theorem dL_law_398 : decode cL_law 398 = .ok (.aload_n 1, 1) := by decide +kernel
theorem dL_law_399 : decode cL_law 399 = .ok (.aload_n 0, 1) := by decide +kernel
theorem dL_law_400 : decode cL_law 400 = .ok (.iload_n 3, 1) := by decide +kernel
theorem dL_law_401 : decode cL_law 401 = .ok (.iconst 1, 1) := by decide +kernel
theorem dL_law_402 : decode cL_law 402 = .ok (.iadd, 1) := by decide +kernel
theorem dL_law_403 : decode cL_law 403 = .ok (.iaload, 1) := by decide +kernel
theorem dL_law_404 : decode cL_law 404 = .ok (.invokevirtual 48, 3) := by decide +kernel
theorem dL_law_407 : decode cL_law 407 = .ok (.aload_n 2, 1) := by decide +kernel
theorem dL_law_408 : decode cL_law 408 = .ok (.aload_n 0, 1) := by decide +kernel
theorem dL_law_409 : decode cL_law 409 = .ok (.iload_n 3, 1) := by decide +kernel
theorem dL_law_410 : decode cL_law 410 = .ok (.iconst 1, 1) := by decide +kernel
theorem dL_law_411 : decode cL_law 411 = .ok (.iadd, 1) := by decide +kernel
theorem dL_law_412 : decode cL_law 412 = .ok (.iaload, 1) := by decide +kernel
theorem dL_law_413 : decode cL_law 413 = .ok (.invokevirtual 51, 3) := by decide +kernel
theorem dL_law_416 : decode cL_law 416 = .ok (.if_icmp .eq 303, 3) := by decide +kernel
theorem dL_law_419 : decode cL_law 419 = .ok (.iconst 0, 1) := by decide +kernel
theorem dL_law_420 : decode cL_law 420 = .ok (.ireturn, 1) := by decide +kernel
theorem dL_law_421 : decode cL_law 421 = .ok (.aload_n 1, 1) := by decide +kernel
theorem dL_law_422 : decode cL_law 422 = .ok (.aload_n 0, 1) := by decide +kernel
theorem dL_law_423 : decode cL_law 423 = .ok (.iload_n 3, 1) := by decide +kernel
theorem dL_law_424 : decode cL_law 424 = .ok (.iconst 1, 1) := by decide +kernel
theorem dL_law_425 : decode cL_law 425 = .ok (.iadd, 1) := by decide +kernel
theorem dL_law_426 : decode cL_law 426 = .ok (.iaload, 1) := by decide +kernel
theorem dL_law_427 : decode cL_law 427 = .ok (.invokevirtual 52, 3) := by decide +kernel
theorem dL_law_430 : decode cL_law 430 = .ok (.aload_n 2, 1) := by decide +kernel
theorem dL_law_431 : decode cL_law 431 = .ok (.aload_n 0, 1) := by decide +kernel
theorem dL_law_432 : decode cL_law 432 = .ok (.iload_n 3, 1) := by decide +kernel
theorem dL_law_433 : decode cL_law 433 = .ok (.iconst 1, 1) := by decide +kernel
theorem dL_law_434 : decode cL_law 434 = .ok (.iadd, 1) := by decide +kernel
theorem dL_law_435 : decode cL_law 435 = .ok (.iaload, 1) := by decide +kernel
theorem dL_law_436 : decode cL_law 436 = .ok (.invokevirtual 55, 3) := by decide +kernel
theorem dL_law_439 : decode cL_law 439 = .ok (.if_icmp .eq 280, 3) := by decide +kernel
theorem dL_law_442 : decode cL_law 442 = .ok (.iconst 0, 1) := by decide +kernel
theorem dL_law_443 : decode cL_law 443 = .ok (.ireturn, 1) := by decide +kernel
theorem dL_law_444 : decode cL_law 444 = .ok (.aload_n 1, 1) := by decide +kernel
theorem dL_law_445 : decode cL_law 445 = .ok (.aload_n 0, 1) := by decide +kernel
theorem dL_law_446 : decode cL_law 446 = .ok (.iload_n 3, 1) := by decide +kernel
theorem dL_law_447 : decode cL_law 447 = .ok (.iconst 1, 1) := by decide +kernel
theorem dL_law_448 : decode cL_law 448 = .ok (.iadd, 1) := by decide +kernel
theorem dL_law_449 : decode cL_law 449 = .ok (.iaload, 1) := by decide +kernel
theorem dL_law_450 : decode cL_law 450 = .ok (.invokevirtual 56, 3) := by decide +kernel
theorem dL_law_453 : decode cL_law 453 = .ok (.aload_n 2, 1) := by decide +kernel
theorem dL_law_454 : decode cL_law 454 = .ok (.aload_n 0, 1) := by decide +kernel
theorem dL_law_455 : decode cL_law 455 = .ok (.iload_n 3, 1) := by decide +kernel
theorem dL_law_456 : decode cL_law 456 = .ok (.iconst 1, 1) := by decide +kernel
theorem dL_law_457 : decode cL_law 457 = .ok (.iadd, 1) := by decide +kernel
theorem dL_law_458 : decode cL_law 458 = .ok (.iaload, 1) := by decide +kernel
theorem dL_law_459 : decode cL_law 459 = .ok (.invokevirtual 59, 3) := by decide +kernel
theorem dL_law_462 : decode cL_law 462 = .ok (.if_icmp .eq 257, 3) := by decide +kernel
theorem dL_law_465 : decode cL_law 465 = .ok (.iconst 0, 1) := by decide +kernel
theorem dL_law_466 : decode cL_law 466 = .ok (.ireturn, 1) := by decide +kernel
theorem dL_law_467 : decode cL_law 467 = .ok (.aload_n 1, 1) := by decide +kernel
theorem dL_law_468 : decode cL_law 468 = .ok (.aload_n 0, 1) := by decide +kernel
theorem dL_law_469 : decode cL_law 469 = .ok (.iload_n 3, 1) := by decide +kernel
theorem dL_law_470 : decode cL_law 470 = .ok (.iconst 1, 1) := by decide +kernel
theorem dL_law_471 : decode cL_law 471 = .ok (.iadd, 1) := by decide +kernel
theorem dL_law_472 : decode cL_law 472 = .ok (.iaload, 1) := by decide +kernel
theorem dL_law_473 : decode cL_law 473 = .ok (.aload_n 0, 1) := by decide +kernel
theorem dL_law_474 : decode cL_law 474 = .ok (.iload_n 3, 1) := by decide +kernel
theorem dL_law_475 : decode cL_law 475 = .ok (.iconst 2, 1) := by decide +kernel
theorem dL_law_476 : decode cL_law 476 = .ok (.iadd, 1) := by decide +kernel
theorem dL_law_477 : decode cL_law 477 = .ok (.iaload, 1) := by decide +kernel
theorem dL_law_478 : decode cL_law 478 = .ok (.invokevirtual 60, 3) := by decide +kernel
theorem dL_law_481 : decode cL_law 481 = .ok (.aload_n 2, 1) := by decide +kernel
theorem dL_law_482 : decode cL_law 482 = .ok (.aload_n 0, 1) := by decide +kernel
theorem dL_law_483 : decode cL_law 483 = .ok (.iload_n 3, 1) := by decide +kernel
theorem dL_law_484 : decode cL_law 484 = .ok (.iconst 1, 1) := by decide +kernel
theorem dL_law_485 : decode cL_law 485 = .ok (.iadd, 1) := by decide +kernel
theorem dL_law_486 : decode cL_law 486 = .ok (.iaload, 1) := by decide +kernel
theorem dL_law_487 : decode cL_law 487 = .ok (.aload_n 0, 1) := by decide +kernel
theorem dL_law_488 : decode cL_law 488 = .ok (.iload_n 3, 1) := by decide +kernel
theorem dL_law_489 : decode cL_law 489 = .ok (.iconst 2, 1) := by decide +kernel
theorem dL_law_490 : decode cL_law 490 = .ok (.iadd, 1) := by decide +kernel
theorem dL_law_491 : decode cL_law 491 = .ok (.iaload, 1) := by decide +kernel
theorem dL_law_492 : decode cL_law 492 = .ok (.invokevirtual 63, 3) := by decide +kernel
theorem dL_law_495 : decode cL_law 495 = .ok (.if_icmp .eq 224, 3) := by decide +kernel
theorem dL_law_498 : decode cL_law 498 = .ok (.iconst 0, 1) := by decide +kernel
theorem dL_law_499 : decode cL_law 499 = .ok (.ireturn, 1) := by decide +kernel
theorem dL_law_500 : decode cL_law 500 = .ok (.aload_n 1, 1) := by decide +kernel
theorem dL_law_501 : decode cL_law 501 = .ok (.aload_n 0, 1) := by decide +kernel
theorem dL_law_502 : decode cL_law 502 = .ok (.iload_n 3, 1) := by decide +kernel
theorem dL_law_503 : decode cL_law 503 = .ok (.iconst 1, 1) := by decide +kernel
theorem dL_law_504 : decode cL_law 504 = .ok (.iadd, 1) := by decide +kernel
theorem dL_law_505 : decode cL_law 505 = .ok (.iaload, 1) := by decide +kernel
theorem dL_law_506 : decode cL_law 506 = .ok (.aload_n 0, 1) := by decide +kernel
theorem dL_law_507 : decode cL_law 507 = .ok (.iload_n 3, 1) := by decide +kernel
theorem dL_law_508 : decode cL_law 508 = .ok (.iconst 2, 1) := by decide +kernel
theorem dL_law_509 : decode cL_law 509 = .ok (.iadd, 1) := by decide +kernel
theorem dL_law_510 : decode cL_law 510 = .ok (.iaload, 1) := by decide +kernel
theorem dL_law_511 : decode cL_law 511 = .ok (.invokevirtual 64, 3) := by decide +kernel
theorem dL_law_514 : decode cL_law 514 = .ok (.aload_n 2, 1) := by decide +kernel
theorem dL_law_515 : decode cL_law 515 = .ok (.aload_n 0, 1) := by decide +kernel
theorem dL_law_516 : decode cL_law 516 = .ok (.iload_n 3, 1) := by decide +kernel
theorem dL_law_517 : decode cL_law 517 = .ok (.iconst 1, 1) := by decide +kernel
theorem dL_law_518 : decode cL_law 518 = .ok (.iadd, 1) := by decide +kernel
theorem dL_law_519 : decode cL_law 519 = .ok (.iaload, 1) := by decide +kernel
theorem dL_law_520 : decode cL_law 520 = .ok (.aload_n 0, 1) := by decide +kernel
theorem dL_law_521 : decode cL_law 521 = .ok (.iload_n 3, 1) := by decide +kernel
theorem dL_law_522 : decode cL_law 522 = .ok (.iconst 2, 1) := by decide +kernel
theorem dL_law_523 : decode cL_law 523 = .ok (.iadd, 1) := by decide +kernel
theorem dL_law_524 : decode cL_law 524 = .ok (.iaload, 1) := by decide +kernel
theorem dL_law_525 : decode cL_law 525 = .ok (.invokevirtual 67, 3) := by decide +kernel
theorem dL_law_528 : decode cL_law 528 = .ok (.if_icmp .eq 191, 3) := by decide +kernel
theorem dL_law_531 : decode cL_law 531 = .ok (.iconst 0, 1) := by decide +kernel
theorem dL_law_532 : decode cL_law 532 = .ok (.ireturn, 1) := by decide +kernel
theorem dL_law_533 : decode cL_law 533 = .ok (.aload_n 1, 1) := by decide +kernel
theorem dL_law_534 : decode cL_law 534 = .ok (.aload_n 0, 1) := by decide +kernel
theorem dL_law_535 : decode cL_law 535 = .ok (.iload_n 3, 1) := by decide +kernel
theorem dL_law_536 : decode cL_law 536 = .ok (.iconst 1, 1) := by decide +kernel
theorem dL_law_537 : decode cL_law 537 = .ok (.iadd, 1) := by decide +kernel
theorem dL_law_538 : decode cL_law 538 = .ok (.iaload, 1) := by decide +kernel
theorem dL_law_539 : decode cL_law 539 = .ok (.aload_n 0, 1) := by decide +kernel
theorem dL_law_540 : decode cL_law 540 = .ok (.iload_n 3, 1) := by decide +kernel
theorem dL_law_541 : decode cL_law 541 = .ok (.iconst 2, 1) := by decide +kernel
theorem dL_law_542 : decode cL_law 542 = .ok (.iadd, 1) := by decide +kernel
theorem dL_law_543 : decode cL_law 543 = .ok (.iaload, 1) := by decide +kernel
theorem dL_law_544 : decode cL_law 544 = .ok (.invokevirtual 68, 3) := by decide +kernel
theorem dL_law_547 : decode cL_law 547 = .ok (.dstore 4, 2) := by decide +kernel
theorem dL_law_549 : decode cL_law 549 = .ok (.aload_n 2, 1) := by decide +kernel
theorem dL_law_550 : decode cL_law 550 = .ok (.aload_n 0, 1) := by decide +kernel
theorem dL_law_551 : decode cL_law 551 = .ok (.iload_n 3, 1) := by decide +kernel
theorem dL_law_552 : decode cL_law 552 = .ok (.iconst 1, 1) := by decide +kernel
theorem dL_law_553 : decode cL_law 553 = .ok (.iadd, 1) := by decide +kernel
theorem dL_law_554 : decode cL_law 554 = .ok (.iaload, 1) := by decide +kernel
theorem dL_law_555 : decode cL_law 555 = .ok (.aload_n 0, 1) := by decide +kernel
theorem dL_law_556 : decode cL_law 556 = .ok (.iload_n 3, 1) := by decide +kernel
theorem dL_law_557 : decode cL_law 557 = .ok (.iconst 2, 1) := by decide +kernel
theorem dL_law_558 : decode cL_law 558 = .ok (.iadd, 1) := by decide +kernel
theorem dL_law_559 : decode cL_law 559 = .ok (.iaload, 1) := by decide +kernel
theorem dL_law_560 : decode cL_law 560 = .ok (.invokevirtual 72, 3) := by decide +kernel
theorem dL_law_563 : decode cL_law 563 = .ok (.dstore 6, 2) := by decide +kernel
theorem dL_law_565 : decode cL_law 565 = .ok (.dload 4, 2) := by decide +kernel
theorem dL_law_567 : decode cL_law 567 = .ok (.dload 6, 2) := by decide +kernel
theorem dL_law_569 : decode cL_law 569 = .ok (.dcmp .l, 1) := by decide +kernel
theorem dL_law_570 : decode cL_law 570 = .ok (.ifCond .eq 21, 3) := by decide +kernel
theorem dL_law_573 : decode cL_law 573 = .ok (.dload 4, 2) := by decide +kernel
theorem dL_law_575 : decode cL_law 575 = .ok (.dload 4, 2) := by decide +kernel
theorem dL_law_577 : decode cL_law 577 = .ok (.dcmp .l, 1) := by decide +kernel
theorem dL_law_578 : decode cL_law 578 = .ok (.ifCond .eq 11, 3) := by decide +kernel
theorem dL_law_581 : decode cL_law 581 = .ok (.dload 6, 2) := by decide +kernel
theorem dL_law_583 : decode cL_law 583 = .ok (.dload 6, 2) := by decide +kernel
theorem dL_law_585 : decode cL_law 585 = .ok (.dcmp .l, 1) := by decide +kernel
theorem dL_law_586 : decode cL_law 586 = .ok (.ifCond .ne 5, 3) := by decide +kernel
theorem dL_law_589 : decode cL_law 589 = .ok (.iconst 0, 1) := by decide +kernel
theorem dL_law_590 : decode cL_law 590 = .ok (.ireturn, 1) := by decide +kernel
theorem dL_law_591 : decode cL_law 591 = .ok (.goto 128, 3) := by decide +kernel
theorem dL_law_594 : decode cL_law 594 = .ok (.aload_n 1, 1) := by decide +kernel
theorem dL_law_595 : decode cL_law 595 = .ok (.aload_n 0, 1) := by decide +kernel
theorem dL_law_596 : decode cL_law 596 = .ok (.iload_n 3, 1) := by decide +kernel
theorem dL_law_597 : decode cL_law 597 = .ok (.iconst 1, 1) := by decide +kernel
theorem dL_law_598 : decode cL_law 598 = .ok (.iadd, 1) := by decide +kernel
theorem dL_law_599 : decode cL_law 599 = .ok (.iaload, 1) := by decide +kernel
theorem dL_law_600 : decode cL_law 600 = .ok (.aload_n 0, 1) := by decide +kernel
theorem dL_law_601 : decode cL_law 601 = .ok (.iload_n 3, 1) := by decide +kernel
theorem dL_law_602 : decode cL_law 602 = .ok (.iconst 2, 1) := by decide +kernel
theorem dL_law_603 : decode cL_law 603 = .ok (.iadd, 1) := by decide +kernel
theorem dL_law_604 : decode cL_law 604 = .ok (.iaload, 1) := by decide +kernel
theorem dL_law_605 : decode cL_law 605 = .ok (.invokevirtual 73, 3) := by decide +kernel
theorem dL_law_608 : decode cL_law 608 = .ok (.aload_n 2, 1) := by decide +kernel
theorem dL_law_609 : decode cL_law 609 = .ok (.aload_n 0, 1) := by decide +kernel
theorem dL_law_610 : decode cL_law 610 = .ok (.iload_n 3, 1) := by decide +kernel
theorem dL_law_611 : decode cL_law 611 = .ok (.iconst 1, 1) := by decide +kernel
theorem dL_law_612 : decode cL_law 612 = .ok (.iadd, 1) := by decide +kernel
theorem dL_law_613 : decode cL_law 613 = .ok (.iaload, 1) := by decide +kernel
theorem dL_law_614 : decode cL_law 614 = .ok (.aload_n 0, 1) := by decide +kernel
theorem dL_law_615 : decode cL_law 615 = .ok (.iload_n 3, 1) := by decide +kernel
theorem dL_law_616 : decode cL_law 616 = .ok (.iconst 2, 1) := by decide +kernel
theorem dL_law_617 : decode cL_law 617 = .ok (.iadd, 1) := by decide +kernel
theorem dL_law_618 : decode cL_law 618 = .ok (.iaload, 1) := by decide +kernel
theorem dL_law_619 : decode cL_law 619 = .ok (.invokevirtual 77, 3) := by decide +kernel
theorem dL_law_622 : decode cL_law 622 = .ok (.if_icmp .eq 97, 3) := by decide +kernel
theorem dL_law_625 : decode cL_law 625 = .ok (.iconst 0, 1) := by decide +kernel
theorem dL_law_626 : decode cL_law 626 = .ok (.ireturn, 1) := by decide +kernel
theorem dL_law_627 : decode cL_law 627 = .ok (.aload_n 1, 1) := by decide +kernel
theorem dL_law_628 : decode cL_law 628 = .ok (.aload_n 0, 1) := by decide +kernel
theorem dL_law_629 : decode cL_law 629 = .ok (.iload_n 3, 1) := by decide +kernel
theorem dL_law_630 : decode cL_law 630 = .ok (.iconst 1, 1) := by decide +kernel
theorem dL_law_631 : decode cL_law 631 = .ok (.iadd, 1) := by decide +kernel
theorem dL_law_632 : decode cL_law 632 = .ok (.iaload, 1) := by decide +kernel
theorem dL_law_633 : decode cL_law 633 = .ok (.invokevirtual 78, 3) := by decide +kernel
theorem dL_law_636 : decode cL_law 636 = .ok (.aload_n 2, 1) := by decide +kernel
theorem dL_law_637 : decode cL_law 637 = .ok (.aload_n 0, 1) := by decide +kernel
theorem dL_law_638 : decode cL_law 638 = .ok (.iload_n 3, 1) := by decide +kernel
theorem dL_law_639 : decode cL_law 639 = .ok (.iconst 1, 1) := by decide +kernel
theorem dL_law_640 : decode cL_law 640 = .ok (.iadd, 1) := by decide +kernel
theorem dL_law_641 : decode cL_law 641 = .ok (.iaload, 1) := by decide +kernel
theorem dL_law_642 : decode cL_law 642 = .ok (.invokevirtual 81, 3) := by decide +kernel
theorem dL_law_645 : decode cL_law 645 = .ok (.if_icmp .eq 74, 3) := by decide +kernel
theorem dL_law_648 : decode cL_law 648 = .ok (.iconst 0, 1) := by decide +kernel
theorem dL_law_649 : decode cL_law 649 = .ok (.ireturn, 1) := by decide +kernel
theorem dL_law_650 : decode cL_law 650 = .ok (.aload_n 1, 1) := by decide +kernel
theorem dL_law_651 : decode cL_law 651 = .ok (.aload_n 0, 1) := by decide +kernel
theorem dL_law_652 : decode cL_law 652 = .ok (.iload_n 3, 1) := by decide +kernel
theorem dL_law_653 : decode cL_law 653 = .ok (.iconst 1, 1) := by decide +kernel
theorem dL_law_654 : decode cL_law 654 = .ok (.iadd, 1) := by decide +kernel
theorem dL_law_655 : decode cL_law 655 = .ok (.iaload, 1) := by decide +kernel
theorem dL_law_656 : decode cL_law 656 = .ok (.invokevirtual 82, 3) := by decide +kernel
theorem dL_law_659 : decode cL_law 659 = .ok (.aload_n 2, 1) := by decide +kernel
theorem dL_law_660 : decode cL_law 660 = .ok (.aload_n 0, 1) := by decide +kernel
theorem dL_law_661 : decode cL_law 661 = .ok (.iload_n 3, 1) := by decide +kernel
theorem dL_law_662 : decode cL_law 662 = .ok (.iconst 1, 1) := by decide +kernel
theorem dL_law_663 : decode cL_law 663 = .ok (.iadd, 1) := by decide +kernel
theorem dL_law_664 : decode cL_law 664 = .ok (.iaload, 1) := by decide +kernel
theorem dL_law_665 : decode cL_law 665 = .ok (.invokevirtual 85, 3) := by decide +kernel
theorem dL_law_668 : decode cL_law 668 = .ok (.if_icmp .eq 51, 3) := by decide +kernel
theorem dL_law_671 : decode cL_law 671 = .ok (.iconst 0, 1) := by decide +kernel
theorem dL_law_672 : decode cL_law 672 = .ok (.ireturn, 1) := by decide +kernel
theorem dL_law_673 : decode cL_law 673 = .ok (.aload_n 1, 1) := by decide +kernel
theorem dL_law_674 : decode cL_law 674 = .ok (.aload_n 0, 1) := by decide +kernel
theorem dL_law_675 : decode cL_law 675 = .ok (.iload_n 3, 1) := by decide +kernel
theorem dL_law_676 : decode cL_law 676 = .ok (.iconst 1, 1) := by decide +kernel
theorem dL_law_677 : decode cL_law 677 = .ok (.iadd, 1) := by decide +kernel
theorem dL_law_678 : decode cL_law 678 = .ok (.iaload, 1) := by decide +kernel
theorem dL_law_679 : decode cL_law 679 = .ok (.invokevirtual 86, 3) := by decide +kernel
theorem dL_law_682 : decode cL_law 682 = .ok (.aload_n 2, 1) := by decide +kernel
theorem dL_law_683 : decode cL_law 683 = .ok (.aload_n 0, 1) := by decide +kernel
theorem dL_law_684 : decode cL_law 684 = .ok (.iload_n 3, 1) := by decide +kernel
theorem dL_law_685 : decode cL_law 685 = .ok (.iconst 1, 1) := by decide +kernel
theorem dL_law_686 : decode cL_law 686 = .ok (.iadd, 1) := by decide +kernel
theorem dL_law_687 : decode cL_law 687 = .ok (.iaload, 1) := by decide +kernel
theorem dL_law_688 : decode cL_law 688 = .ok (.invokevirtual 89, 3) := by decide +kernel
theorem dL_law_691 : decode cL_law 691 = .ok (.if_icmp .eq 28, 3) := by decide +kernel
theorem dL_law_694 : decode cL_law 694 = .ok (.iconst 0, 1) := by decide +kernel
theorem dL_law_695 : decode cL_law 695 = .ok (.ireturn, 1) := by decide +kernel
theorem dL_law_696 : decode cL_law 696 = .ok (.aload_n 1, 1) := by decide +kernel
theorem dL_law_697 : decode cL_law 697 = .ok (.aload_n 0, 1) := by decide +kernel
theorem dL_law_698 : decode cL_law 698 = .ok (.iload_n 3, 1) := by decide +kernel
theorem dL_law_699 : decode cL_law 699 = .ok (.iconst 1, 1) := by decide +kernel
theorem dL_law_700 : decode cL_law 700 = .ok (.iadd, 1) := by decide +kernel
theorem dL_law_701 : decode cL_law 701 = .ok (.iaload, 1) := by decide +kernel
theorem dL_law_702 : decode cL_law 702 = .ok (.invokevirtual 90, 3) := by decide +kernel
theorem dL_law_705 : decode cL_law 705 = .ok (.aload_n 2, 1) := by decide +kernel
theorem dL_law_706 : decode cL_law 706 = .ok (.aload_n 0, 1) := by decide +kernel
theorem dL_law_707 : decode cL_law 707 = .ok (.iload_n 3, 1) := by decide +kernel
theorem dL_law_708 : decode cL_law 708 = .ok (.iconst 1, 1) := by decide +kernel
theorem dL_law_709 : decode cL_law 709 = .ok (.iadd, 1) := by decide +kernel
theorem dL_law_710 : decode cL_law 710 = .ok (.iaload, 1) := by decide +kernel
theorem dL_law_711 : decode cL_law 711 = .ok (.invokevirtual 93, 3) := by decide +kernel
theorem dL_law_714 : decode cL_law 714 = .ok (.if_icmp .eq 5, 3) := by decide +kernel
theorem dL_law_717 : decode cL_law 717 = .ok (.iconst 0, 1) := by decide +kernel
theorem dL_law_718 : decode cL_law 718 = .ok (.ireturn, 1) := by decide +kernel
theorem dL_law_719 : decode cL_law 719 = .ok (.iinc 3 4, 3) := by decide +kernel
theorem dL_law_722 : decode cL_law 722 = .ok (.goto (-704), 3) := by decide +kernel
theorem dL_law_725 : decode cL_law 725 = .ok (.iconst 1, 1) := by decide +kernel
theorem dL_law_726 : decode cL_law 726 = .ok (.ireturn, 1) := by decide +kernel
