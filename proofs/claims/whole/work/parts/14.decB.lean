theorem gd_25_23 : decode gm_c25 23 = .ok (.iinc 1 (1), 3) := by decide +kernel
theorem gd_25_26 : decode gm_c25 26 = .ok (.goto (-24), 3) := by decide +kernel
theorem gd_25_29 : decode gm_c25 29 = .ok (.iconst 1, 1) := by decide +kernel
theorem gd_25_30 : decode gm_c25 30 = .ok (.istore_n 1, 1) := by decide +kernel
theorem gd_25_31 : decode gm_c25 31 = .ok (.iload_n 1, 1) := by decide +kernel
theorem gd_25_32 : decode gm_c25 32 = .ok (.ifCond .eq (89), 3) := by decide +kernel
theorem gd_25_35 : decode gm_c25 35 = .ok (.iconst 0, 1) := by decide +kernel
theorem gd_25_36 : decode gm_c25 36 = .ok (.istore_n 1, 1) := by decide +kernel
theorem gd_25_37 : decode gm_c25 37 = .ok (.sipush (159), 3) := by decide +kernel
theorem gd_25_40 : decode gm_c25 40 = .ok (.istore_n 2, 1) := by decide +kernel
theorem gd_25_41 : decode gm_c25 41 = .ok (.iload_n 2, 1) := by decide +kernel
theorem gd_25_42 : decode gm_c25 42 = .ok (.ifCond .lt (76), 3) := by decide +kernel
theorem gd_25_45 : decode gm_c25 45 = .ok (.aload_n 0, 1) := by decide +kernel
theorem gd_25_46 : decode gm_c25 46 = .ok (.iload_n 2, 1) := by decide +kernel
theorem gd_25_47 : decode gm_c25 47 = .ok (.invokevirtual 158, 3) := by decide +kernel
theorem gd_25_50 : decode gm_c25 50 = .ok (.ifCond .eq (62), 3) := by decide +kernel
theorem gd_25_53 : decode gm_c25 53 = .ok (.aload_n 0, 1) := by decide +kernel
theorem gd_25_54 : decode gm_c25 54 = .ok (.iload_n 2, 1) := by decide +kernel
theorem gd_25_55 : decode gm_c25 55 = .ok (.invokevirtual 161, 3) := by decide +kernel
theorem gd_25_58 : decode gm_c25 58 = .ok (.istore_n 3, 1) := by decide +kernel
theorem gd_25_59 : decode gm_c25 59 = .ok (.aload_n 0, 1) := by decide +kernel
theorem gd_25_60 : decode gm_c25 60 = .ok (.iload_n 2, 1) := by decide +kernel
theorem gd_25_61 : decode gm_c25 61 = .ok (.invokevirtual 164, 3) := by decide +kernel
theorem gd_25_64 : decode gm_c25 64 = .ok (.istore 4, 2) := by decide +kernel
theorem gd_25_66 : decode gm_c25 66 = .ok (.iload_n 1, 1) := by decide +kernel
theorem gd_25_67 : decode gm_c25 67 = .ok (.ifCond .ne (24), 3) := by decide +kernel
theorem gd_25_70 : decode gm_c25 70 = .ok (.iload_n 3, 1) := by decide +kernel
theorem gd_25_71 : decode gm_c25 71 = .ok (.aload_n 0, 1) := by decide +kernel
theorem gd_25_72 : decode gm_c25 72 = .ok (.getfield 44, 3) := by decide +kernel
theorem gd_25_75 : decode gm_c25 75 = .ok (.iload_n 2, 1) := by decide +kernel
theorem gd_25_76 : decode gm_c25 76 = .ok (.baload, 1) := by decide +kernel
theorem gd_25_77 : decode gm_c25 77 = .ok (.if_icmp .ne (14), 3) := by decide +kernel
theorem gd_25_80 : decode gm_c25 80 = .ok (.iload 4, 2) := by decide +kernel
theorem gd_25_82 : decode gm_c25 82 = .ok (.aload_n 0, 1) := by decide +kernel
theorem gd_25_83 : decode gm_c25 83 = .ok (.getfield 47, 3) := by decide +kernel
theorem gd_25_86 : decode gm_c25 86 = .ok (.iload_n 2, 1) := by decide +kernel
theorem gd_25_87 : decode gm_c25 87 = .ok (.iaload, 1) := by decide +kernel
theorem gd_25_88 : decode gm_c25 88 = .ok (.if_icmp .eq (7), 3) := by decide +kernel
theorem gd_25_91 : decode gm_c25 91 = .ok (.iconst 1, 1) := by decide +kernel
theorem gd_25_92 : decode gm_c25 92 = .ok (.goto (4), 3) := by decide +kernel
theorem gd_25_95 : decode gm_c25 95 = .ok (.iconst 0, 1) := by decide +kernel
theorem gd_25_96 : decode gm_c25 96 = .ok (.istore_n 1, 1) := by decide +kernel
theorem gd_25_97 : decode gm_c25 97 = .ok (.aload_n 0, 1) := by decide +kernel
theorem gd_25_98 : decode gm_c25 98 = .ok (.getfield 44, 3) := by decide +kernel
theorem gd_25_101 : decode gm_c25 101 = .ok (.iload_n 2, 1) := by decide +kernel
theorem gd_25_102 : decode gm_c25 102 = .ok (.iload_n 3, 1) := by decide +kernel
theorem gd_25_103 : decode gm_c25 103 = .ok (.bastore, 1) := by decide +kernel
theorem gd_25_104 : decode gm_c25 104 = .ok (.aload_n 0, 1) := by decide +kernel
theorem gd_25_105 : decode gm_c25 105 = .ok (.getfield 47, 3) := by decide +kernel
theorem gd_25_108 : decode gm_c25 108 = .ok (.iload_n 2, 1) := by decide +kernel
theorem gd_25_109 : decode gm_c25 109 = .ok (.iload 4, 2) := by decide +kernel
theorem gd_25_111 : decode gm_c25 111 = .ok (.iastore, 1) := by decide +kernel
theorem gd_25_112 : decode gm_c25 112 = .ok (.iinc 2 (-1), 3) := by decide +kernel
theorem gd_25_115 : decode gm_c25 115 = .ok (.goto (-74), 3) := by decide +kernel
theorem gd_25_118 : decode gm_c25 118 = .ok (.goto (-87), 3) := by decide +kernel
theorem gd_25_121 : decode gm_c25 121 = .ok (.iconst 0, 1) := by decide +kernel
theorem gd_25_122 : decode gm_c25 122 = .ok (.istore_n 2, 1) := by decide +kernel
theorem gd_25_123 : decode gm_c25 123 = .ok (.iload_n 2, 1) := by decide +kernel
theorem gd_25_124 : decode gm_c25 124 = .ok (.iconst 4, 1) := by decide +kernel
theorem gd_25_125 : decode gm_c25 125 = .ok (.if_icmp .ge (86), 3) := by decide +kernel
theorem gd_25_128 : decode gm_c25 128 = .ok (.aload_n 0, 1) := by decide +kernel
theorem gd_25_129 : decode gm_c25 129 = .ok (.getfield 50, 3) := by decide +kernel
theorem gd_25_132 : decode gm_c25 132 = .ok (.iload_n 2, 1) := by decide +kernel
theorem gd_25_133 : decode gm_c25 133 = .ok (.iconst 0, 1) := by decide +kernel
theorem gd_25_134 : decode gm_c25 134 = .ok (.iastore, 1) := by decide +kernel
theorem gd_25_135 : decode gm_c25 135 = .ok (.bipush (40), 2) := by decide +kernel
theorem gd_25_137 : decode gm_c25 137 = .ok (.iload_n 2, 1) := by decide +kernel
theorem gd_25_138 : decode gm_c25 138 = .ok (.imul, 1) := by decide +kernel
theorem gd_25_139 : decode gm_c25 139 = .ok (.istore_n 3, 1) := by decide +kernel
theorem gd_25_140 : decode gm_c25 140 = .ok (.iload_n 3, 1) := by decide +kernel
theorem gd_25_141 : decode gm_c25 141 = .ok (.bipush (40), 2) := by decide +kernel
theorem gd_25_143 : decode gm_c25 143 = .ok (.iload_n 2, 1) := by decide +kernel
theorem gd_25_144 : decode gm_c25 144 = .ok (.imul, 1) := by decide +kernel
theorem gd_25_145 : decode gm_c25 145 = .ok (.bipush (40), 2) := by decide +kernel
theorem gd_25_147 : decode gm_c25 147 = .ok (.iadd, 1) := by decide +kernel
theorem gd_25_148 : decode gm_c25 148 = .ok (.if_icmp .ge (57), 3) := by decide +kernel
theorem gd_25_151 : decode gm_c25 151 = .ok (.aload_n 0, 1) := by decide +kernel
theorem gd_25_152 : decode gm_c25 152 = .ok (.getfield 50, 3) := by decide +kernel
theorem gd_25_155 : decode gm_c25 155 = .ok (.iload_n 2, 1) := by decide +kernel
theorem gd_25_156 : decode gm_c25 156 = .ok (.aload_n 0, 1) := by decide +kernel
theorem gd_25_157 : decode gm_c25 157 = .ok (.iload_n 3, 1) := by decide +kernel
theorem gd_25_158 : decode gm_c25 158 = .ok (.invokevirtual 158, 3) := by decide +kernel
theorem gd_25_161 : decode gm_c25 161 = .ok (.ifCond .eq (31), 3) := by decide +kernel
theorem gd_25_164 : decode gm_c25 164 = .ok (.aload_n 0, 1) := by decide +kernel
theorem gd_25_165 : decode gm_c25 165 = .ok (.getfield 29, 3) := by decide +kernel
theorem gd_25_168 : decode gm_c25 168 = .ok (.iload_n 3, 1) := by decide +kernel
theorem gd_25_169 : decode gm_c25 169 = .ok (.iaload, 1) := by decide +kernel
theorem gd_25_170 : decode gm_c25 170 = .ok (.iconst 1, 1) := by decide +kernel
theorem gd_25_171 : decode gm_c25 171 = .ok (.if_icmp .ne (21), 3) := by decide +kernel
theorem gd_25_174 : decode gm_c25 174 = .ok (.aload_n 0, 1) := by decide +kernel
theorem gd_25_175 : decode gm_c25 175 = .ok (.getfield 50, 3) := by decide +kernel
theorem gd_25_178 : decode gm_c25 178 = .ok (.iload_n 2, 1) := by decide +kernel
theorem gd_25_179 : decode gm_c25 179 = .ok (.iaload, 1) := by decide +kernel
theorem gd_25_180 : decode gm_c25 180 = .ok (.iconst 1, 1) := by decide +kernel
theorem gd_25_181 : decode gm_c25 181 = .ok (.aload_n 0, 1) := by decide +kernel
theorem gd_25_182 : decode gm_c25 182 = .ok (.getfield 32, 3) := by decide +kernel
theorem gd_25_185 : decode gm_c25 185 = .ok (.iload_n 3, 1) := by decide +kernel
theorem gd_25_186 : decode gm_c25 186 = .ok (.iaload, 1) := by decide +kernel
theorem gd_25_187 : decode gm_c25 187 = .ok (.ishl, 1) := by decide +kernel
theorem gd_25_188 : decode gm_c25 188 = .ok (.ior, 1) := by decide +kernel
theorem gd_25_189 : decode gm_c25 189 = .ok (.goto (9), 3) := by decide +kernel
theorem gd_25_192 : decode gm_c25 192 = .ok (.aload_n 0, 1) := by decide +kernel
theorem gd_25_193 : decode gm_c25 193 = .ok (.getfield 50, 3) := by decide +kernel
theorem gd_25_196 : decode gm_c25 196 = .ok (.iload_n 2, 1) := by decide +kernel
theorem gd_25_197 : decode gm_c25 197 = .ok (.iaload, 1) := by decide +kernel
theorem gd_25_198 : decode gm_c25 198 = .ok (.iastore, 1) := by decide +kernel
theorem gd_25_199 : decode gm_c25 199 = .ok (.iinc 3 (1), 3) := by decide +kernel
theorem gd_25_202 : decode gm_c25 202 = .ok (.goto (-62), 3) := by decide +kernel
theorem gd_25_205 : decode gm_c25 205 = .ok (.iinc 2 (1), 3) := by decide +kernel
theorem gd_25_208 : decode gm_c25 208 = .ok (.goto (-85), 3) := by decide +kernel
theorem gd_25_211 : decode gm_c25 211 = .ok (.return_, 1) := by decide +kernel
theorem gd_26_0 : decode gm_c26 0 = .ok (.iload_n 1, 1) := by decide +kernel
theorem gd_26_1 : decode gm_c26 1 = .ok (.istore_n 3, 1) := by decide +kernel
theorem gd_26_2 : decode gm_c26 2 = .ok (.iconst 0, 1) := by decide +kernel
theorem gd_26_3 : decode gm_c26 3 = .ok (.istore 4, 2) := by decide +kernel
theorem gd_26_5 : decode gm_c26 5 = .ok (.iload 4, 2) := by decide +kernel
theorem gd_26_7 : decode gm_c26 7 = .ok (.iconst 4, 1) := by decide +kernel
theorem gd_26_8 : decode gm_c26 8 = .ok (.if_icmp .ge (71), 3) := by decide +kernel
theorem gd_26_11 : decode gm_c26 11 = .ok (.iconst 0, 1) := by decide +kernel
theorem gd_26_12 : decode gm_c26 12 = .ok (.istore 5, 2) := by decide +kernel
theorem gd_26_14 : decode gm_c26 14 = .ok (.iload 5, 2) := by decide +kernel
theorem gd_26_16 : decode gm_c26 16 = .ok (.iconst 4, 1) := by decide +kernel
theorem gd_26_17 : decode gm_c26 17 = .ok (.if_icmp .ge (56), 3) := by decide +kernel
theorem gd_26_20 : decode gm_c26 20 = .ok (.iload_n 3, 1) := by decide +kernel
theorem gd_26_21 : decode gm_c26 21 = .ok (.iload 5, 2) := by decide +kernel
theorem gd_26_23 : decode gm_c26 23 = .ok (.ishr, 1) := by decide +kernel
theorem gd_26_24 : decode gm_c26 24 = .ok (.iconst 1, 1) := by decide +kernel
theorem gd_26_25 : decode gm_c26 25 = .ok (.iand, 1) := by decide +kernel
theorem gd_26_26 : decode gm_c26 26 = .ok (.iconst 1, 1) := by decide +kernel
theorem gd_26_27 : decode gm_c26 27 = .ok (.if_icmp .ne (40), 3) := by decide +kernel
theorem gd_26_30 : decode gm_c26 30 = .ok (.aload_n 0, 1) := by decide +kernel
theorem gd_26_31 : decode gm_c26 31 = .ok (.getfield 16, 3) := by decide +kernel
theorem gd_26_34 : decode gm_c26 34 = .ok (.iload 5, 2) := by decide +kernel
theorem gd_26_36 : decode gm_c26 36 = .ok (.baload, 1) := by decide +kernel
theorem gd_26_37 : decode gm_c26 37 = .ok (.ifCond .eq (30), 3) := by decide +kernel
theorem gd_26_40 : decode gm_c26 40 = .ok (.iload_n 3, 1) := by decide +kernel
theorem gd_26_41 : decode gm_c26 41 = .ok (.iload_n 2, 1) := by decide +kernel
theorem gd_26_42 : decode gm_c26 42 = .ok (.ifCond .ne (13), 3) := by decide +kernel
theorem gd_26_45 : decode gm_c26 45 = .ok (.aload_n 0, 1) := by decide +kernel
theorem gd_26_46 : decode gm_c26 46 = .ok (.getfield 50, 3) := by decide +kernel
theorem gd_26_49 : decode gm_c26 49 = .ok (.iload 5, 2) := by decide +kernel
theorem gd_26_51 : decode gm_c26 51 = .ok (.iaload, 1) := by decide +kernel
theorem gd_26_52 : decode gm_c26 52 = .ok (.goto (13), 3) := by decide +kernel
theorem gd_26_55 : decode gm_c26 55 = .ok (.aload_n 0, 1) := by decide +kernel
theorem gd_26_56 : decode gm_c26 56 = .ok (.getfield 47, 3) := by decide +kernel
theorem gd_26_59 : decode gm_c26 59 = .ok (.bipush (40), 2) := by decide +kernel
theorem gd_26_61 : decode gm_c26 61 = .ok (.iload 5, 2) := by decide +kernel
theorem gd_26_63 : decode gm_c26 63 = .ok (.imul, 1) := by decide +kernel
theorem gd_26_64 : decode gm_c26 64 = .ok (.iaload, 1) := by decide +kernel
theorem gd_26_65 : decode gm_c26 65 = .ok (.ior, 1) := by decide +kernel
theorem gd_26_66 : decode gm_c26 66 = .ok (.istore_n 3, 1) := by decide +kernel
theorem gd_26_67 : decode gm_c26 67 = .ok (.iinc 5 (1), 3) := by decide +kernel
theorem gd_26_70 : decode gm_c26 70 = .ok (.goto (-56), 3) := by decide +kernel
theorem gd_26_73 : decode gm_c26 73 = .ok (.iinc 4 (1), 3) := by decide +kernel
theorem gd_26_76 : decode gm_c26 76 = .ok (.goto (-71), 3) := by decide +kernel
theorem gd_26_79 : decode gm_c26 79 = .ok (.iload_n 3, 1) := by decide +kernel
theorem gd_26_80 : decode gm_c26 80 = .ok (.ireturn, 1) := by decide +kernel
theorem gd_27_0 : decode gm_c27 0 = .ok (.aload_n 0, 1) := by decide +kernel
theorem gd_27_1 : decode gm_c27 1 = .ok (.invokevirtual 167, 3) := by decide +kernel
theorem gd_27_4 : decode gm_c27 4 = .ok (.aload_n 0, 1) := by decide +kernel
theorem gd_27_5 : decode gm_c27 5 = .ok (.iconst 1, 1) := by decide +kernel
theorem gd_27_6 : decode gm_c27 6 = .ok (.iload_n 1, 1) := by decide +kernel
theorem gd_27_7 : decode gm_c27 7 = .ok (.ishl, 1) := by decide +kernel
theorem gd_27_8 : decode gm_c27 8 = .ok (.iconst 0, 1) := by decide +kernel
theorem gd_27_9 : decode gm_c27 9 = .ok (.invokevirtual 170, 3) := by decide +kernel
theorem gd_27_12 : decode gm_c27 12 = .ok (.istore_n 2, 1) := by decide +kernel
theorem gd_27_13 : decode gm_c27 13 = .ok (.iconst 0, 1) := by decide +kernel
theorem gd_27_14 : decode gm_c27 14 = .ok (.istore_n 3, 1) := by decide +kernel
theorem gd_27_15 : decode gm_c27 15 = .ok (.iconst 0, 1) := by decide +kernel
theorem gd_27_16 : decode gm_c27 16 = .ok (.istore 4, 2) := by decide +kernel
theorem gd_27_18 : decode gm_c27 18 = .ok (.iconst 0, 1) := by decide +kernel
theorem gd_27_19 : decode gm_c27 19 = .ok (.istore 5, 2) := by decide +kernel
theorem gd_27_21 : decode gm_c27 21 = .ok (.iconst 0, 1) := by decide +kernel
theorem gd_27_22 : decode gm_c27 22 = .ok (.istore 6, 2) := by decide +kernel
theorem gd_27_24 : decode gm_c27 24 = .ok (.iload 6, 2) := by decide +kernel
theorem gd_27_26 : decode gm_c27 26 = .ok (.iconst 4, 1) := by decide +kernel
theorem gd_27_27 : decode gm_c27 27 = .ok (.if_icmp .ge (169), 3) := by decide +kernel
theorem gd_27_30 : decode gm_c27 30 = .ok (.iload_n 2, 1) := by decide +kernel
theorem gd_27_31 : decode gm_c27 31 = .ok (.iload 6, 2) := by decide +kernel
theorem gd_27_33 : decode gm_c27 33 = .ok (.ishr, 1) := by decide +kernel
theorem gd_27_34 : decode gm_c27 34 = .ok (.iconst 1, 1) := by decide +kernel
theorem gd_27_35 : decode gm_c27 35 = .ok (.iand, 1) := by decide +kernel
theorem gd_27_36 : decode gm_c27 36 = .ok (.iconst 1, 1) := by decide +kernel
theorem gd_27_37 : decode gm_c27 37 = .ok (.if_icmp .ne (153), 3) := by decide +kernel
theorem gd_27_40 : decode gm_c27 40 = .ok (.iload_n 3, 1) := by decide +kernel
theorem gd_27_41 : decode gm_c27 41 = .ok (.ifCond .ne (13), 3) := by decide +kernel
theorem gd_27_44 : decode gm_c27 44 = .ok (.aload_n 0, 1) := by decide +kernel
theorem gd_27_45 : decode gm_c27 45 = .ok (.getfield 16, 3) := by decide +kernel
theorem gd_27_48 : decode gm_c27 48 = .ok (.iload 6, 2) := by decide +kernel
theorem gd_27_50 : decode gm_c27 50 = .ok (.baload, 1) := by decide +kernel
theorem gd_27_51 : decode gm_c27 51 = .ok (.ifCond .ne (7), 3) := by decide +kernel
theorem gd_27_54 : decode gm_c27 54 = .ok (.iconst 1, 1) := by decide +kernel
theorem gd_27_55 : decode gm_c27 55 = .ok (.goto (4), 3) := by decide +kernel
theorem gd_27_58 : decode gm_c27 58 = .ok (.iconst 0, 1) := by decide +kernel
theorem gd_27_59 : decode gm_c27 59 = .ok (.istore_n 3, 1) := by decide +kernel
theorem gd_27_60 : decode gm_c27 60 = .ok (.iload 4, 2) := by decide +kernel
theorem gd_27_62 : decode gm_c27 62 = .ok (.ifCond .ne (37), 3) := by decide +kernel
theorem gd_27_65 : decode gm_c27 65 = .ok (.aload_n 0, 1) := by decide +kernel
theorem gd_27_66 : decode gm_c27 66 = .ok (.getfield 16, 3) := by decide +kernel
theorem gd_27_69 : decode gm_c27 69 = .ok (.iload 6, 2) := by decide +kernel
theorem gd_27_71 : decode gm_c27 71 = .ok (.baload, 1) := by decide +kernel
theorem gd_27_72 : decode gm_c27 72 = .ok (.ifCond .eq (31), 3) := by decide +kernel
theorem gd_27_75 : decode gm_c27 75 = .ok (.aload_n 0, 1) := by decide +kernel
theorem gd_27_76 : decode gm_c27 76 = .ok (.aload_n 0, 1) := by decide +kernel
theorem gd_27_77 : decode gm_c27 77 = .ok (.getfield 47, 3) := by decide +kernel
theorem gd_27_80 : decode gm_c27 80 = .ok (.bipush (40), 2) := by decide +kernel
theorem gd_27_82 : decode gm_c27 82 = .ok (.iload 6, 2) := by decide +kernel
theorem gd_27_84 : decode gm_c27 84 = .ok (.imul, 1) := by decide +kernel
theorem gd_27_85 : decode gm_c27 85 = .ok (.iaload, 1) := by decide +kernel
theorem gd_27_86 : decode gm_c27 86 = .ok (.iconst 1, 1) := by decide +kernel
theorem gd_27_87 : decode gm_c27 87 = .ok (.invokevirtual 170, 3) := by decide +kernel
theorem gd_27_90 : decode gm_c27 90 = .ok (.iload 6, 2) := by decide +kernel
theorem gd_27_92 : decode gm_c27 92 = .ok (.ishr, 1) := by decide +kernel
theorem gd_27_93 : decode gm_c27 93 = .ok (.iconst 1, 1) := by decide +kernel
theorem gd_27_94 : decode gm_c27 94 = .ok (.iand, 1) := by decide +kernel
theorem gd_27_95 : decode gm_c27 95 = .ok (.iconst 1, 1) := by decide +kernel
theorem gd_27_96 : decode gm_c27 96 = .ok (.if_icmp .ne (7), 3) := by decide +kernel
theorem gd_27_99 : decode gm_c27 99 = .ok (.iconst 1, 1) := by decide +kernel
theorem gd_27_100 : decode gm_c27 100 = .ok (.goto (4), 3) := by decide +kernel
theorem gd_27_103 : decode gm_c27 103 = .ok (.iconst 0, 1) := by decide +kernel
theorem gd_27_104 : decode gm_c27 104 = .ok (.istore 4, 2) := by decide +kernel
theorem gd_27_106 : decode gm_c27 106 = .ok (.bipush (40), 2) := by decide +kernel
theorem gd_27_108 : decode gm_c27 108 = .ok (.iload 6, 2) := by decide +kernel
theorem gd_27_110 : decode gm_c27 110 = .ok (.imul, 1) := by decide +kernel
theorem gd_27_111 : decode gm_c27 111 = .ok (.istore 7, 2) := by decide +kernel
theorem gd_27_113 : decode gm_c27 113 = .ok (.iload 7, 2) := by decide +kernel
theorem gd_27_115 : decode gm_c27 115 = .ok (.bipush (40), 2) := by decide +kernel
theorem gd_27_117 : decode gm_c27 117 = .ok (.iload 6, 2) := by decide +kernel
theorem gd_27_119 : decode gm_c27 119 = .ok (.imul, 1) := by decide +kernel
theorem gd_27_120 : decode gm_c27 120 = .ok (.bipush (40), 2) := by decide +kernel
theorem gd_27_122 : decode gm_c27 122 = .ok (.iadd, 1) := by decide +kernel
theorem gd_27_123 : decode gm_c27 123 = .ok (.if_icmp .ge (67), 3) := by decide +kernel
theorem gd_27_126 : decode gm_c27 126 = .ok (.iload 5, 2) := by decide +kernel
theorem gd_27_128 : decode gm_c27 128 = .ok (.ifCond .ne (49), 3) := by decide +kernel
theorem gd_27_131 : decode gm_c27 131 = .ok (.aload_n 0, 1) := by decide +kernel
theorem gd_27_132 : decode gm_c27 132 = .ok (.iload 7, 2) := by decide +kernel
theorem gd_27_134 : decode gm_c27 134 = .ok (.invokevirtual 158, 3) := by decide +kernel
theorem gd_27_137 : decode gm_c27 137 = .ok (.ifCond .eq (44), 3) := by decide +kernel
theorem gd_27_140 : decode gm_c27 140 = .ok (.aload_n 0, 1) := by decide +kernel
theorem gd_27_141 : decode gm_c27 141 = .ok (.getfield 29, 3) := by decide +kernel
theorem gd_27_144 : decode gm_c27 144 = .ok (.iload 7, 2) := by decide +kernel
theorem gd_27_146 : decode gm_c27 146 = .ok (.iaload, 1) := by decide +kernel
theorem gd_27_147 : decode gm_c27 147 = .ok (.iconst 4, 1) := by decide +kernel
theorem gd_27_148 : decode gm_c27 148 = .ok (.if_icmp .eq (14), 3) := by decide +kernel
theorem gd_27_151 : decode gm_c27 151 = .ok (.aload_n 0, 1) := by decide +kernel
theorem gd_27_152 : decode gm_c27 152 = .ok (.getfield 29, 3) := by decide +kernel
theorem gd_27_155 : decode gm_c27 155 = .ok (.iload 7, 2) := by decide +kernel
theorem gd_27_157 : decode gm_c27 157 = .ok (.iaload, 1) := by decide +kernel
theorem gd_27_158 : decode gm_c27 158 = .ok (.iconst 5, 1) := by decide +kernel
theorem gd_27_159 : decode gm_c27 159 = .ok (.if_icmp .ne (22), 3) := by decide +kernel
theorem gd_27_162 : decode gm_c27 162 = .ok (.aload_n 0, 1) := by decide +kernel
theorem gd_27_163 : decode gm_c27 163 = .ok (.getfield 44, 3) := by decide +kernel
theorem gd_27_166 : decode gm_c27 166 = .ok (.aload_n 0, 1) := by decide +kernel
theorem gd_27_167 : decode gm_c27 167 = .ok (.getfield 32, 3) := by decide +kernel
theorem gd_27_170 : decode gm_c27 170 = .ok (.iload 7, 2) := by decide +kernel
theorem gd_27_172 : decode gm_c27 172 = .ok (.iaload, 1) := by decide +kernel
theorem gd_27_173 : decode gm_c27 173 = .ok (.baload, 1) := by decide +kernel
theorem gd_27_174 : decode gm_c27 174 = .ok (.ifCond .eq (7), 3) := by decide +kernel
theorem gd_27_177 : decode gm_c27 177 = .ok (.iconst 1, 1) := by decide +kernel
theorem gd_27_178 : decode gm_c27 178 = .ok (.goto (4), 3) := by decide +kernel
theorem gd_27_181 : decode gm_c27 181 = .ok (.iconst 0, 1) := by decide +kernel
theorem gd_27_182 : decode gm_c27 182 = .ok (.istore 5, 2) := by decide +kernel
theorem gd_27_184 : decode gm_c27 184 = .ok (.iinc 7 (1), 3) := by decide +kernel
theorem gd_27_187 : decode gm_c27 187 = .ok (.goto (-74), 3) := by decide +kernel
theorem gd_27_190 : decode gm_c27 190 = .ok (.iinc 6 (1), 3) := by decide +kernel
theorem gd_27_193 : decode gm_c27 193 = .ok (.goto (-169), 3) := by decide +kernel
theorem gd_27_196 : decode gm_c27 196 = .ok (.iload_n 3, 1) := by decide +kernel
theorem gd_27_197 : decode gm_c27 197 = .ok (.ifCond .eq (7), 3) := by decide +kernel
theorem gd_27_200 : decode gm_c27 200 = .ok (.iconst 1, 1) := by decide +kernel
theorem gd_27_201 : decode gm_c27 201 = .ok (.goto (22), 3) := by decide +kernel
theorem gd_27_204 : decode gm_c27 204 = .ok (.iload 4, 2) := by decide +kernel
theorem gd_27_206 : decode gm_c27 206 = .ok (.ifCond .eq (7), 3) := by decide +kernel
theorem gd_27_209 : decode gm_c27 209 = .ok (.iconst 2, 1) := by decide +kernel
theorem gd_27_210 : decode gm_c27 210 = .ok (.goto (13), 3) := by decide +kernel
theorem gd_27_213 : decode gm_c27 213 = .ok (.iload 5, 2) := by decide +kernel
theorem gd_27_215 : decode gm_c27 215 = .ok (.ifCond .eq (7), 3) := by decide +kernel
theorem gd_27_218 : decode gm_c27 218 = .ok (.iconst 3, 1) := by decide +kernel
theorem gd_27_219 : decode gm_c27 219 = .ok (.goto (4), 3) := by decide +kernel
theorem gd_27_222 : decode gm_c27 222 = .ok (.iconst 0, 1) := by decide +kernel
theorem gd_27_223 : decode gm_c27 223 = .ok (.ireturn, 1) := by decide +kernel
theorem gd_28_0 : decode gm_c28 0 = .ok (.aload_n 0, 1) := by decide +kernel
theorem gd_28_1 : decode gm_c28 1 = .ok (.iload_n 1, 1) := by decide +kernel
theorem gd_28_2 : decode gm_c28 2 = .ok (.invokestatic 155, 3) := by decide +kernel
theorem gd_28_5 : decode gm_c28 5 = .ok (.ifCond .eq (7), 3) := by decide +kernel
theorem gd_28_8 : decode gm_c28 8 = .ok (.iconst 0, 1) := by decide +kernel
theorem gd_28_9 : decode gm_c28 9 = .ok (.goto (4), 3) := by decide +kernel
theorem gd_28_12 : decode gm_c28 12 = .ok (.iconst 1, 1) := by decide +kernel
theorem gd_28_13 : decode gm_c28 13 = .ok (.putfield 90, 3) := by decide +kernel
theorem gd_28_16 : decode gm_c28 16 = .ok (.aload_n 0, 1) := by decide +kernel
theorem gd_28_17 : decode gm_c28 17 = .ok (.getfield 90, 3) := by decide +kernel
theorem gd_28_20 : decode gm_c28 20 = .ok (.ifCond .le (7), 3) := by decide +kernel
theorem gd_28_23 : decode gm_c28 23 = .ok (.iconst 0, 1) := by decide +kernel
theorem gd_28_24 : decode gm_c28 24 = .ok (.goto (8), 3) := by decide +kernel
theorem gd_28_27 : decode gm_c28 27 = .ok (.aload_n 0, 1) := by decide +kernel
theorem gd_28_28 : decode gm_c28 28 = .ok (.iload_n 1, 1) := by decide +kernel
theorem gd_28_29 : decode gm_c28 29 = .ok (.invokevirtual 173, 3) := by decide +kernel
theorem gd_28_32 : decode gm_c28 32 = .ok (.ireturn, 1) := by decide +kernel
theorem gd_29_0 : decode gm_c29 0 = .ok (.iload_n 2, 1) := by decide +kernel
theorem gd_29_1 : decode gm_c29 1 = .ok (.istore_n 3, 1) := by decide +kernel
theorem gd_29_2 : decode gm_c29 2 = .ok (.aload_n 0, 1) := by decide +kernel
theorem gd_29_3 : decode gm_c29 3 = .ok (.getfield 68, 3) := by decide +kernel
theorem gd_29_6 : decode gm_c29 6 = .ok (.bipush (13), 2) := by decide +kernel
theorem gd_29_8 : decode gm_c29 8 = .ok (.iload_n 1, 1) := by decide +kernel
theorem gd_29_9 : decode gm_c29 9 = .ok (.imul, 1) := by decide +kernel
theorem gd_29_10 : decode gm_c29 10 = .ok (.iload_n 3, 1) := by decide +kernel
theorem gd_29_11 : decode gm_c29 11 = .ok (.iadd, 1) := by decide +kernel
theorem gd_29_12 : decode gm_c29 12 = .ok (.iaload, 1) := by decide +kernel
theorem gd_29_13 : decode gm_c29 13 = .ok (.istore 4, 2) := by decide +kernel
theorem gd_29_15 : decode gm_c29 15 = .ok (.iload 4, 2) := by decide +kernel
theorem gd_29_17 : decode gm_c29 17 = .ok (.iload_n 3, 1) := by decide +kernel
theorem gd_29_18 : decode gm_c29 18 = .ok (.if_icmp .le (22), 3) := by decide +kernel
theorem gd_29_21 : decode gm_c29 21 = .ok (.iload 4, 2) := by decide +kernel
theorem gd_29_23 : decode gm_c29 23 = .ok (.istore_n 3, 1) := by decide +kernel
theorem gd_29_24 : decode gm_c29 24 = .ok (.aload_n 0, 1) := by decide +kernel
theorem gd_29_25 : decode gm_c29 25 = .ok (.getfield 68, 3) := by decide +kernel
theorem gd_29_28 : decode gm_c29 28 = .ok (.bipush (13), 2) := by decide +kernel
theorem gd_29_30 : decode gm_c29 30 = .ok (.iload_n 1, 1) := by decide +kernel
theorem gd_29_31 : decode gm_c29 31 = .ok (.imul, 1) := by decide +kernel
theorem gd_29_32 : decode gm_c29 32 = .ok (.iload_n 3, 1) := by decide +kernel
theorem gd_29_33 : decode gm_c29 33 = .ok (.iadd, 1) := by decide +kernel
theorem gd_29_34 : decode gm_c29 34 = .ok (.iaload, 1) := by decide +kernel
theorem gd_29_35 : decode gm_c29 35 = .ok (.istore 4, 2) := by decide +kernel
theorem gd_29_37 : decode gm_c29 37 = .ok (.goto (-22), 3) := by decide +kernel
theorem gd_29_40 : decode gm_c29 40 = .ok (.iload 4, 2) := by decide +kernel
theorem gd_29_42 : decode gm_c29 42 = .ok (.bipush (-2), 2) := by decide +kernel
theorem gd_29_44 : decode gm_c29 44 = .ok (.if_icmp .ne (8), 3) := by decide +kernel
theorem gd_29_47 : decode gm_c29 47 = .ok (.bipush (-2), 2) := by decide +kernel
theorem gd_29_49 : decode gm_c29 49 = .ok (.goto (4), 3) := by decide +kernel
theorem gd_29_52 : decode gm_c29 52 = .ok (.iload_n 3, 1) := by decide +kernel
theorem gd_29_53 : decode gm_c29 53 = .ok (.ireturn, 1) := by decide +kernel
theorem gd_30_0 : decode gm_c30 0 = .ok (.iload_n 2, 1) := by decide +kernel
theorem gd_30_1 : decode gm_c30 1 = .ok (.istore_n 3, 1) := by decide +kernel
theorem gd_30_2 : decode gm_c30 2 = .ok (.aload_n 0, 1) := by decide +kernel
theorem gd_30_3 : decode gm_c30 3 = .ok (.getfield 32, 3) := by decide +kernel
theorem gd_30_6 : decode gm_c30 6 = .ok (.iload_n 1, 1) := by decide +kernel
theorem gd_30_7 : decode gm_c30 7 = .ok (.iaload, 1) := by decide +kernel
theorem gd_30_8 : decode gm_c30 8 = .ok (.istore 4, 2) := by decide +kernel
theorem gd_30_10 : decode gm_c30 10 = .ok (.iload 4, 2) := by decide +kernel
theorem gd_30_12 : decode gm_c30 12 = .ok (.ifCond .lt (34), 3) := by decide +kernel
theorem gd_30_15 : decode gm_c30 15 = .ok (.aload_n 0, 1) := by decide +kernel
theorem gd_30_16 : decode gm_c30 16 = .ok (.getfield 68, 3) := by decide +kernel
theorem gd_30_19 : decode gm_c30 19 = .ok (.bipush (13), 2) := by decide +kernel
theorem gd_30_21 : decode gm_c30 21 = .ok (.iload 4, 2) := by decide +kernel
theorem gd_30_23 : decode gm_c30 23 = .ok (.imul, 1) := by decide +kernel
theorem gd_30_24 : decode gm_c30 24 = .ok (.iload_n 3, 1) := by decide +kernel
theorem gd_30_25 : decode gm_c30 25 = .ok (.iadd, 1) := by decide +kernel
theorem gd_30_26 : decode gm_c30 26 = .ok (.iaload, 1) := by decide +kernel
theorem gd_30_27 : decode gm_c30 27 = .ok (.istore_n 3, 1) := by decide +kernel
theorem gd_30_28 : decode gm_c30 28 = .ok (.iload_n 3, 1) := by decide +kernel
theorem gd_30_29 : decode gm_c30 29 = .ok (.ifCond .ge (5), 3) := by decide +kernel
theorem gd_30_32 : decode gm_c30 32 = .ok (.iload_n 3, 1) := by decide +kernel
theorem gd_30_33 : decode gm_c30 33 = .ok (.ireturn, 1) := by decide +kernel
theorem gd_30_34 : decode gm_c30 34 = .ok (.aload_n 0, 1) := by decide +kernel
theorem gd_30_35 : decode gm_c30 35 = .ok (.getfield 38, 3) := by decide +kernel
theorem gd_30_38 : decode gm_c30 38 = .ok (.iload 4, 2) := by decide +kernel
theorem gd_30_40 : decode gm_c30 40 = .ok (.iaload, 1) := by decide +kernel
theorem gd_30_41 : decode gm_c30 41 = .ok (.istore 4, 2) := by decide +kernel
theorem gd_30_43 : decode gm_c30 43 = .ok (.goto (-33), 3) := by decide +kernel
theorem gd_30_46 : decode gm_c30 46 = .ok (.iload_n 3, 1) := by decide +kernel
theorem gd_30_47 : decode gm_c30 47 = .ok (.ireturn, 1) := by decide +kernel
theorem gd_31_0 : decode gm_c31 0 = .ok (.aload_n 0, 1) := by decide +kernel
theorem gd_31_1 : decode gm_c31 1 = .ok (.getfield 32, 3) := by decide +kernel
theorem gd_31_4 : decode gm_c31 4 = .ok (.iload_n 1, 1) := by decide +kernel
theorem gd_31_5 : decode gm_c31 5 = .ok (.iaload, 1) := by decide +kernel
theorem gd_31_6 : decode gm_c31 6 = .ok (.istore_n 3, 1) := by decide +kernel
theorem gd_31_7 : decode gm_c31 7 = .ok (.iload_n 3, 1) := by decide +kernel
theorem gd_31_8 : decode gm_c31 8 = .ok (.ifCond .lt (35), 3) := by decide +kernel
theorem gd_31_11 : decode gm_c31 11 = .ok (.aload_n 0, 1) := by decide +kernel
theorem gd_31_12 : decode gm_c31 12 = .ok (.getfield 68, 3) := by decide +kernel
theorem gd_31_15 : decode gm_c31 15 = .ok (.bipush (13), 2) := by decide +kernel
theorem gd_31_17 : decode gm_c31 17 = .ok (.iload_n 3, 1) := by decide +kernel
theorem gd_31_18 : decode gm_c31 18 = .ok (.imul, 1) := by decide +kernel
theorem gd_31_19 : decode gm_c31 19 = .ok (.iload_n 2, 1) := by decide +kernel
theorem gd_31_20 : decode gm_c31 20 = .ok (.iadd, 1) := by decide +kernel
theorem gd_31_21 : decode gm_c31 21 = .ok (.iaload, 1) := by decide +kernel
theorem gd_31_22 : decode gm_c31 22 = .ok (.istore 4, 2) := by decide +kernel
theorem gd_31_24 : decode gm_c31 24 = .ok (.iload 4, 2) := by decide +kernel
theorem gd_31_26 : decode gm_c31 26 = .ok (.iconst (-1), 1) := by decide +kernel
theorem gd_31_27 : decode gm_c31 27 = .ok (.if_icmp .eq (6), 3) := by decide +kernel
theorem gd_31_30 : decode gm_c31 30 = .ok (.iload 4, 2) := by decide +kernel
theorem gd_31_32 : decode gm_c31 32 = .ok (.ireturn, 1) := by decide +kernel
theorem gd_31_33 : decode gm_c31 33 = .ok (.aload_n 0, 1) := by decide +kernel
theorem gd_31_34 : decode gm_c31 34 = .ok (.getfield 38, 3) := by decide +kernel
theorem gd_31_37 : decode gm_c31 37 = .ok (.iload_n 3, 1) := by decide +kernel
theorem gd_31_38 : decode gm_c31 38 = .ok (.iaload, 1) := by decide +kernel
theorem gd_31_39 : decode gm_c31 39 = .ok (.istore_n 3, 1) := by decide +kernel
theorem gd_31_40 : decode gm_c31 40 = .ok (.goto (-33), 3) := by decide +kernel
theorem gd_31_43 : decode gm_c31 43 = .ok (.iconst (-1), 1) := by decide +kernel
theorem gd_31_44 : decode gm_c31 44 = .ok (.ireturn, 1) := by decide +kernel
theorem gd_32_0 : decode gm_c32 0 = .ok (.aload_n 0, 1) := by decide +kernel
theorem gd_32_1 : decode gm_c32 1 = .ok (.getfield 29, 3) := by decide +kernel
theorem gd_32_4 : decode gm_c32 4 = .ok (.iload_n 1, 1) := by decide +kernel
theorem gd_32_5 : decode gm_c32 5 = .ok (.iaload, 1) := by decide +kernel
theorem gd_32_6 : decode gm_c32 6 = .ok (.istore_n 3, 1) := by decide +kernel
theorem gd_32_7 : decode gm_c32 7 = .ok (.iload_n 3, 1) := by decide +kernel
theorem gd_32_8 : decode gm_c32 8 = .ok (.ifCond .ne (49), 3) := by decide +kernel
theorem gd_32_11 : decode gm_c32 11 = .ok (.iload_n 2, 1) := by decide +kernel
theorem gd_32_12 : decode gm_c32 12 = .ok (.aload_n 0, 1) := by decide +kernel
theorem gd_32_13 : decode gm_c32 13 = .ok (.getfield 100, 3) := by decide +kernel
theorem gd_32_16 : decode gm_c32 16 = .ok (.if_icmp .ge (39), 3) := by decide +kernel
theorem gd_32_19 : decode gm_c32 19 = .ok (.aload_n 0, 1) := by decide +kernel
theorem gd_32_20 : decode gm_c32 20 = .ok (.getfield 13, 3) := by decide +kernel
theorem gd_32_23 : decode gm_c32 23 = .ok (.iload_n 2, 1) := by decide +kernel
theorem gd_32_24 : decode gm_c32 24 = .ok (.iaload, 1) := by decide +kernel
theorem gd_32_25 : decode gm_c32 25 = .ok (.aload_n 0, 1) := by decide +kernel
theorem gd_32_26 : decode gm_c32 26 = .ok (.getfield 32, 3) := by decide +kernel
theorem gd_32_29 : decode gm_c32 29 = .ok (.iload_n 1, 1) := by decide +kernel
theorem gd_32_30 : decode gm_c32 30 = .ok (.iaload, 1) := by decide +kernel
theorem gd_32_31 : decode gm_c32 31 = .ok (.if_icmp .lt (24), 3) := by decide +kernel
theorem gd_32_34 : decode gm_c32 34 = .ok (.aload_n 0, 1) := by decide +kernel
theorem gd_32_35 : decode gm_c32 35 = .ok (.getfield 13, 3) := by decide +kernel
theorem gd_32_38 : decode gm_c32 38 = .ok (.iload_n 2, 1) := by decide +kernel
theorem gd_32_39 : decode gm_c32 39 = .ok (.iaload, 1) := by decide +kernel
theorem gd_32_40 : decode gm_c32 40 = .ok (.aload_n 0, 1) := by decide +kernel
theorem gd_32_41 : decode gm_c32 41 = .ok (.getfield 35, 3) := by decide +kernel
theorem gd_32_44 : decode gm_c32 44 = .ok (.iload_n 1, 1) := by decide +kernel
theorem gd_32_45 : decode gm_c32 45 = .ok (.iaload, 1) := by decide +kernel
theorem gd_32_46 : decode gm_c32 46 = .ok (.if_icmp .gt (9), 3) := by decide +kernel
theorem gd_32_49 : decode gm_c32 49 = .ok (.iload_n 2, 1) := by decide +kernel
theorem gd_32_50 : decode gm_c32 50 = .ok (.iconst 1, 1) := by decide +kernel
theorem gd_32_51 : decode gm_c32 51 = .ok (.iadd, 1) := by decide +kernel
theorem gd_32_52 : decode gm_c32 52 = .ok (.goto (4), 3) := by decide +kernel
theorem gd_32_55 : decode gm_c32 55 = .ok (.iconst (-1), 1) := by decide +kernel
theorem gd_32_56 : decode gm_c32 56 = .ok (.ireturn, 1) := by decide +kernel
theorem gd_32_57 : decode gm_c32 57 = .ok (.iload_n 3, 1) := by decide +kernel
theorem gd_32_58 : decode gm_c32 58 = .ok (.iconst 2, 1) := by decide +kernel
theorem gd_32_59 : decode gm_c32 59 = .ok (.if_icmp .ne (5), 3) := by decide +kernel
theorem gd_32_62 : decode gm_c32 62 = .ok (.iload_n 2, 1) := by decide +kernel
theorem gd_32_63 : decode gm_c32 63 = .ok (.ireturn, 1) := by decide +kernel
theorem gd_32_64 : decode gm_c32 64 = .ok (.iload_n 3, 1) := by decide +kernel
theorem gd_32_65 : decode gm_c32 65 = .ok (.iconst 1, 1) := by decide +kernel
theorem gd_32_66 : decode gm_c32 66 = .ok (.if_icmp .ne (40), 3) := by decide +kernel
theorem gd_32_69 : decode gm_c32 69 = .ok (.aload_n 0, 1) := by decide +kernel
theorem gd_32_70 : decode gm_c32 70 = .ok (.getfield 16, 3) := by decide +kernel
theorem gd_32_73 : decode gm_c32 73 = .ok (.aload_n 0, 1) := by decide +kernel
theorem gd_32_74 : decode gm_c32 74 = .ok (.getfield 32, 3) := by decide +kernel
theorem gd_32_77 : decode gm_c32 77 = .ok (.iload_n 1, 1) := by decide +kernel
theorem gd_32_78 : decode gm_c32 78 = .ok (.iaload, 1) := by decide +kernel
theorem gd_32_79 : decode gm_c32 79 = .ok (.baload, 1) := by decide +kernel
theorem gd_32_80 : decode gm_c32 80 = .ok (.ifCond .eq (23), 3) := by decide +kernel
theorem gd_32_83 : decode gm_c32 83 = .ok (.aload_n 0, 1) := by decide +kernel
theorem gd_32_84 : decode gm_c32 84 = .ok (.getfield 68, 3) := by decide +kernel
theorem gd_32_87 : decode gm_c32 87 = .ok (.sipush (520), 3) := by decide +kernel
theorem gd_32_90 : decode gm_c32 90 = .ok (.aload_n 0, 1) := by decide +kernel
theorem gd_32_91 : decode gm_c32 91 = .ok (.getfield 32, 3) := by decide +kernel
theorem gd_32_94 : decode gm_c32 94 = .ok (.iload_n 1, 1) := by decide +kernel
theorem gd_32_95 : decode gm_c32 95 = .ok (.iaload, 1) := by decide +kernel
theorem gd_32_96 : decode gm_c32 96 = .ok (.imul, 1) := by decide +kernel
theorem gd_32_97 : decode gm_c32 97 = .ok (.iload_n 2, 1) := by decide +kernel
theorem gd_32_98 : decode gm_c32 98 = .ok (.iadd, 1) := by decide +kernel
theorem gd_32_99 : decode gm_c32 99 = .ok (.iaload, 1) := by decide +kernel
theorem gd_32_100 : decode gm_c32 100 = .ok (.goto (5), 3) := by decide +kernel
theorem gd_32_103 : decode gm_c32 103 = .ok (.bipush (-2), 2) := by decide +kernel
theorem gd_32_105 : decode gm_c32 105 = .ok (.ireturn, 1) := by decide +kernel
theorem gd_32_106 : decode gm_c32 106 = .ok (.iload_n 3, 1) := by decide +kernel
theorem gd_32_107 : decode gm_c32 107 = .ok (.bipush (9), 2) := by decide +kernel
theorem gd_32_109 : decode gm_c32 109 = .ok (.if_icmp .ne (10), 3) := by decide +kernel
theorem gd_32_112 : decode gm_c32 112 = .ok (.aload_n 0, 1) := by decide +kernel
theorem gd_32_113 : decode gm_c32 113 = .ok (.iload_n 1, 1) := by decide +kernel
theorem gd_32_114 : decode gm_c32 114 = .ok (.iload_n 2, 1) := by decide +kernel
theorem gd_32_115 : decode gm_c32 115 = .ok (.invokevirtual 176, 3) := by decide +kernel
theorem gd_32_118 : decode gm_c32 118 = .ok (.ireturn, 1) := by decide +kernel
theorem gd_32_119 : decode gm_c32 119 = .ok (.iload_n 3, 1) := by decide +kernel
theorem gd_32_120 : decode gm_c32 120 = .ok (.bipush (10), 2) := by decide +kernel
theorem gd_32_122 : decode gm_c32 122 = .ok (.if_icmp .ne (10), 3) := by decide +kernel
theorem gd_32_125 : decode gm_c32 125 = .ok (.aload_n 0, 1) := by decide +kernel
theorem gd_32_126 : decode gm_c32 126 = .ok (.iload_n 1, 1) := by decide +kernel
theorem gd_32_127 : decode gm_c32 127 = .ok (.iload_n 2, 1) := by decide +kernel
theorem gd_32_128 : decode gm_c32 128 = .ok (.invokevirtual 179, 3) := by decide +kernel
theorem gd_32_131 : decode gm_c32 131 = .ok (.ireturn, 1) := by decide +kernel
theorem gd_32_132 : decode gm_c32 132 = .ok (.iload_n 3, 1) := by decide +kernel
theorem gd_32_133 : decode gm_c32 133 = .ok (.iconst 4, 1) := by decide +kernel
theorem gd_32_134 : decode gm_c32 134 = .ok (.if_icmp .ne (15), 3) := by decide +kernel
theorem gd_32_137 : decode gm_c32 137 = .ok (.aload_n 0, 1) := by decide +kernel
theorem gd_32_138 : decode gm_c32 138 = .ok (.aload_n 0, 1) := by decide +kernel
theorem gd_32_139 : decode gm_c32 139 = .ok (.getfield 32, 3) := by decide +kernel
theorem gd_32_142 : decode gm_c32 142 = .ok (.iload_n 1, 1) := by decide +kernel
theorem gd_32_143 : decode gm_c32 143 = .ok (.iaload, 1) := by decide +kernel
theorem gd_32_144 : decode gm_c32 144 = .ok (.iload_n 2, 1) := by decide +kernel
theorem gd_32_145 : decode gm_c32 145 = .ok (.invokevirtual 182, 3) := by decide +kernel
theorem gd_32_148 : decode gm_c32 148 = .ok (.ireturn, 1) := by decide +kernel
theorem gd_32_149 : decode gm_c32 149 = .ok (.aload_n 0, 1) := by decide +kernel
theorem gd_32_150 : decode gm_c32 150 = .ok (.getfield 68, 3) := by decide +kernel
theorem gd_32_153 : decode gm_c32 153 = .ok (.bipush (13), 2) := by decide +kernel
theorem gd_32_155 : decode gm_c32 155 = .ok (.aload_n 0, 1) := by decide +kernel
theorem gd_32_156 : decode gm_c32 156 = .ok (.getfield 32, 3) := by decide +kernel
theorem gd_32_159 : decode gm_c32 159 = .ok (.iload_n 1, 1) := by decide +kernel
theorem gd_32_160 : decode gm_c32 160 = .ok (.iaload, 1) := by decide +kernel
theorem gd_32_161 : decode gm_c32 161 = .ok (.imul, 1) := by decide +kernel
theorem gd_32_162 : decode gm_c32 162 = .ok (.iload_n 2, 1) := by decide +kernel
theorem gd_32_163 : decode gm_c32 163 = .ok (.iadd, 1) := by decide +kernel
theorem gd_32_164 : decode gm_c32 164 = .ok (.iaload, 1) := by decide +kernel
theorem gd_32_165 : decode gm_c32 165 = .ok (.istore 4, 2) := by decide +kernel
theorem gd_32_167 : decode gm_c32 167 = .ok (.iload 4, 2) := by decide +kernel
theorem gd_32_169 : decode gm_c32 169 = .ok (.bipush (-2), 2) := by decide +kernel
theorem gd_32_171 : decode gm_c32 171 = .ok (.if_icmp .eq (8), 3) := by decide +kernel
theorem gd_32_174 : decode gm_c32 174 = .ok (.iload_n 3, 1) := by decide +kernel
theorem gd_32_175 : decode gm_c32 175 = .ok (.iconst 3, 1) := by decide +kernel
theorem gd_32_176 : decode gm_c32 176 = .ok (.if_icmp .ne (6), 3) := by decide +kernel
theorem gd_32_179 : decode gm_c32 179 = .ok (.iload 4, 2) := by decide +kernel
theorem gd_32_181 : decode gm_c32 181 = .ok (.ireturn, 1) := by decide +kernel
theorem gd_32_182 : decode gm_c32 182 = .ok (.iload_n 3, 1) := by decide +kernel
theorem gd_32_183 : decode gm_c32 183 = .ok (.iconst 5, 1) := by decide +kernel
theorem gd_32_184 : decode gm_c32 184 = .ok (.if_icmp .ne (25), 3) := by decide +kernel
theorem gd_32_187 : decode gm_c32 187 = .ok (.iload 4, 2) := by decide +kernel
theorem gd_32_189 : decode gm_c32 189 = .ok (.ifCond .ge (7), 3) := by decide +kernel
theorem gd_32_192 : decode gm_c32 192 = .ok (.iconst (-1), 1) := by decide +kernel
theorem gd_32_193 : decode gm_c32 193 = .ok (.goto (15), 3) := by decide +kernel
theorem gd_32_196 : decode gm_c32 196 = .ok (.aload_n 0, 1) := by decide +kernel
theorem gd_32_197 : decode gm_c32 197 = .ok (.aload_n 0, 1) := by decide +kernel
theorem gd_32_198 : decode gm_c32 198 = .ok (.getfield 32, 3) := by decide +kernel
theorem gd_32_201 : decode gm_c32 201 = .ok (.iload_n 1, 1) := by decide +kernel
theorem gd_32_202 : decode gm_c32 202 = .ok (.iaload, 1) := by decide +kernel
theorem gd_32_203 : decode gm_c32 203 = .ok (.iload 4, 2) := by decide +kernel
theorem gd_32_205 : decode gm_c32 205 = .ok (.invokevirtual 182, 3) := by decide +kernel
theorem gd_32_208 : decode gm_c32 208 = .ok (.ireturn, 1) := by decide +kernel
theorem gd_32_209 : decode gm_c32 209 = .ok (.iload_n 3, 1) := by decide +kernel
theorem gd_32_210 : decode gm_c32 210 = .ok (.bipush (6), 2) := by decide +kernel
theorem gd_32_212 : decode gm_c32 212 = .ok (.if_icmp .ne (15), 3) := by decide +kernel
theorem gd_32_215 : decode gm_c32 215 = .ok (.iload 4, 2) := by decide +kernel
theorem gd_32_217 : decode gm_c32 217 = .ok (.ifCond .ge (7), 3) := by decide +kernel
theorem gd_32_220 : decode gm_c32 220 = .ok (.iload_n 2, 1) := by decide +kernel
theorem gd_32_221 : decode gm_c32 221 = .ok (.goto (5), 3) := by decide +kernel
theorem gd_32_224 : decode gm_c32 224 = .ok (.iload 4, 2) := by decide +kernel
theorem gd_32_226 : decode gm_c32 226 = .ok (.ireturn, 1) := by decide +kernel
theorem gd_32_227 : decode gm_c32 227 = .ok (.iload 4, 2) := by decide +kernel
theorem gd_32_229 : decode gm_c32 229 = .ok (.ifCond .lt (7), 3) := by decide +kernel
theorem gd_32_232 : decode gm_c32 232 = .ok (.iconst 1, 1) := by decide +kernel
theorem gd_32_233 : decode gm_c32 233 = .ok (.goto (4), 3) := by decide +kernel
theorem gd_32_236 : decode gm_c32 236 = .ok (.iconst 0, 1) := by decide +kernel
theorem gd_32_237 : decode gm_c32 237 = .ok (.iload_n 3, 1) := by decide +kernel
theorem gd_32_238 : decode gm_c32 238 = .ok (.bipush (7), 2) := by decide +kernel
theorem gd_32_240 : decode gm_c32 240 = .ok (.if_icmp .ne (7), 3) := by decide +kernel
theorem gd_32_243 : decode gm_c32 243 = .ok (.iconst 1, 1) := by decide +kernel
theorem gd_32_244 : decode gm_c32 244 = .ok (.goto (4), 3) := by decide +kernel
theorem gd_32_247 : decode gm_c32 247 = .ok (.iconst 0, 1) := by decide +kernel
theorem gd_32_248 : decode gm_c32 248 = .ok (.if_icmp .ne (7), 3) := by decide +kernel
theorem gd_32_251 : decode gm_c32 251 = .ok (.iload_n 2, 1) := by decide +kernel
theorem gd_32_252 : decode gm_c32 252 = .ok (.goto (4), 3) := by decide +kernel
theorem gd_32_255 : decode gm_c32 255 = .ok (.iconst (-1), 1) := by decide +kernel
theorem gd_32_256 : decode gm_c32 256 = .ok (.ireturn, 1) := by decide +kernel
theorem gd_33_0 : decode gm_c33 0 = .ok (.iconst 0, 1) := by decide +kernel
theorem gd_33_1 : decode gm_c33 1 = .ok (.istore_n 1, 1) := by decide +kernel
theorem gd_33_2 : decode gm_c33 2 = .ok (.iload_n 1, 1) := by decide +kernel
theorem gd_33_3 : decode gm_c33 3 = .ok (.sipush (2600), 3) := by decide +kernel
theorem gd_33_6 : decode gm_c33 6 = .ok (.if_icmp .ge (17), 3) := by decide +kernel
theorem gd_33_9 : decode gm_c33 9 = .ok (.aload_n 0, 1) := by decide +kernel
theorem gd_33_10 : decode gm_c33 10 = .ok (.getfield 68, 3) := by decide +kernel
theorem gd_33_13 : decode gm_c33 13 = .ok (.iload_n 1, 1) := by decide +kernel
theorem gd_33_14 : decode gm_c33 14 = .ok (.bipush (-2), 2) := by decide +kernel
theorem gd_33_16 : decode gm_c33 16 = .ok (.iastore, 1) := by decide +kernel
theorem gd_33_17 : decode gm_c33 17 = .ok (.iinc 1 (1), 3) := by decide +kernel
theorem gd_33_20 : decode gm_c33 20 = .ok (.goto (-18), 3) := by decide +kernel
theorem gd_33_23 : decode gm_c33 23 = .ok (.iconst 1, 1) := by decide +kernel
theorem gd_33_24 : decode gm_c33 24 = .ok (.istore_n 1, 1) := by decide +kernel
theorem gd_33_25 : decode gm_c33 25 = .ok (.iload_n 1, 1) := by decide +kernel
theorem gd_33_26 : decode gm_c33 26 = .ok (.ifCond .eq (104), 3) := by decide +kernel
theorem gd_33_29 : decode gm_c33 29 = .ok (.iconst 0, 1) := by decide +kernel
theorem gd_33_30 : decode gm_c33 30 = .ok (.istore_n 1, 1) := by decide +kernel
theorem gd_33_31 : decode gm_c33 31 = .ok (.aload_n 0, 1) := by decide +kernel
theorem gd_33_32 : decode gm_c33 32 = .ok (.getfield 100, 3) := by decide +kernel
theorem gd_33_35 : decode gm_c33 35 = .ok (.istore_n 2, 1) := by decide +kernel
theorem gd_33_36 : decode gm_c33 36 = .ok (.iload_n 2, 1) := by decide +kernel
theorem gd_33_37 : decode gm_c33 37 = .ok (.ifCond .lt (90), 3) := by decide +kernel
theorem gd_33_40 : decode gm_c33 40 = .ok (.sipush (159), 3) := by decide +kernel
theorem gd_33_43 : decode gm_c33 43 = .ok (.istore_n 3, 1) := by decide +kernel
theorem gd_33_44 : decode gm_c33 44 = .ok (.iload_n 3, 1) := by decide +kernel
theorem gd_33_45 : decode gm_c33 45 = .ok (.ifCond .lt (76), 3) := by decide +kernel
theorem gd_33_48 : decode gm_c33 48 = .ok (.aload_n 0, 1) := by decide +kernel
theorem gd_33_49 : decode gm_c33 49 = .ok (.iload_n 3, 1) := by decide +kernel
theorem gd_33_50 : decode gm_c33 50 = .ok (.invokevirtual 158, 3) := by decide +kernel
theorem gd_33_53 : decode gm_c33 53 = .ok (.ifCond .eq (62), 3) := by decide +kernel
theorem gd_33_56 : decode gm_c33 56 = .ok (.aload_n 0, 1) := by decide +kernel
theorem gd_33_57 : decode gm_c33 57 = .ok (.getfield 68, 3) := by decide +kernel
theorem gd_33_60 : decode gm_c33 60 = .ok (.bipush (13), 2) := by decide +kernel
theorem gd_33_62 : decode gm_c33 62 = .ok (.iload_n 3, 1) := by decide +kernel
theorem gd_33_63 : decode gm_c33 63 = .ok (.imul, 1) := by decide +kernel
theorem gd_33_64 : decode gm_c33 64 = .ok (.iload_n 2, 1) := by decide +kernel
theorem gd_33_65 : decode gm_c33 65 = .ok (.iadd, 1) := by decide +kernel
theorem gd_33_66 : decode gm_c33 66 = .ok (.iaload, 1) := by decide +kernel
theorem gd_33_67 : decode gm_c33 67 = .ok (.bipush (-2), 2) := by decide +kernel
theorem gd_33_69 : decode gm_c33 69 = .ok (.if_icmp .ne (46), 3) := by decide +kernel
theorem gd_33_72 : decode gm_c33 72 = .ok (.aload_n 0, 1) := by decide +kernel
theorem gd_33_73 : decode gm_c33 73 = .ok (.getfield 68, 3) := by decide +kernel
theorem gd_33_76 : decode gm_c33 76 = .ok (.bipush (13), 2) := by decide +kernel
theorem gd_33_78 : decode gm_c33 78 = .ok (.iload_n 3, 1) := by decide +kernel
theorem gd_33_79 : decode gm_c33 79 = .ok (.imul, 1) := by decide +kernel
theorem gd_33_80 : decode gm_c33 80 = .ok (.iload_n 2, 1) := by decide +kernel
theorem gd_33_81 : decode gm_c33 81 = .ok (.iadd, 1) := by decide +kernel
theorem gd_33_82 : decode gm_c33 82 = .ok (.aload_n 0, 1) := by decide +kernel
theorem gd_33_83 : decode gm_c33 83 = .ok (.iload_n 3, 1) := by decide +kernel
theorem gd_33_84 : decode gm_c33 84 = .ok (.iload_n 2, 1) := by decide +kernel
theorem gd_33_85 : decode gm_c33 85 = .ok (.invokevirtual 185, 3) := by decide +kernel
theorem gd_33_88 : decode gm_c33 88 = .ok (.iastore, 1) := by decide +kernel
theorem gd_33_89 : decode gm_c33 89 = .ok (.iload_n 1, 1) := by decide +kernel
theorem gd_33_90 : decode gm_c33 90 = .ok (.ifCond .ne (19), 3) := by decide +kernel
theorem gd_33_93 : decode gm_c33 93 = .ok (.aload_n 0, 1) := by decide +kernel
theorem gd_33_94 : decode gm_c33 94 = .ok (.getfield 68, 3) := by decide +kernel
theorem gd_33_97 : decode gm_c33 97 = .ok (.bipush (13), 2) := by decide +kernel
theorem gd_33_99 : decode gm_c33 99 = .ok (.iload_n 3, 1) := by decide +kernel
theorem gd_33_100 : decode gm_c33 100 = .ok (.imul, 1) := by decide +kernel
theorem gd_33_101 : decode gm_c33 101 = .ok (.iload_n 2, 1) := by decide +kernel
theorem gd_33_102 : decode gm_c33 102 = .ok (.iadd, 1) := by decide +kernel
theorem gd_33_103 : decode gm_c33 103 = .ok (.iaload, 1) := by decide +kernel
theorem gd_33_104 : decode gm_c33 104 = .ok (.bipush (-2), 2) := by decide +kernel
theorem gd_33_106 : decode gm_c33 106 = .ok (.if_icmp .eq (7), 3) := by decide +kernel
theorem gd_33_109 : decode gm_c33 109 = .ok (.iconst 1, 1) := by decide +kernel
theorem gd_33_110 : decode gm_c33 110 = .ok (.goto (4), 3) := by decide +kernel
theorem gd_33_113 : decode gm_c33 113 = .ok (.iconst 0, 1) := by decide +kernel
theorem gd_33_114 : decode gm_c33 114 = .ok (.istore_n 1, 1) := by decide +kernel
theorem gd_33_115 : decode gm_c33 115 = .ok (.iinc 3 (-1), 3) := by decide +kernel
theorem gd_33_118 : decode gm_c33 118 = .ok (.goto (-74), 3) := by decide +kernel
theorem gd_33_121 : decode gm_c33 121 = .ok (.iinc 2 (-1), 3) := by decide +kernel
theorem gd_33_124 : decode gm_c33 124 = .ok (.goto (-88), 3) := by decide +kernel
theorem gd_33_127 : decode gm_c33 127 = .ok (.goto (-102), 3) := by decide +kernel
theorem gd_33_130 : decode gm_c33 130 = .ok (.return_, 1) := by decide +kernel
theorem gd_34_0 : decode gm_c34 0 = .ok (.aload_n 0, 1) := by decide +kernel
theorem gd_34_1 : decode gm_c34 1 = .ok (.getfield 71, 3) := by decide +kernel
theorem gd_34_4 : decode gm_c34 4 = .ok (.bipush (13), 2) := by decide +kernel
theorem gd_34_6 : decode gm_c34 6 = .ok (.iload_n 1, 1) := by decide +kernel
theorem gd_34_7 : decode gm_c34 7 = .ok (.imul, 1) := by decide +kernel
theorem gd_34_8 : decode gm_c34 8 = .ok (.iload_n 2, 1) := by decide +kernel
theorem gd_34_9 : decode gm_c34 9 = .ok (.iadd, 1) := by decide +kernel
theorem gd_34_10 : decode gm_c34 10 = .ok (.baload, 1) := by decide +kernel
theorem gd_34_11 : decode gm_c34 11 = .ok (.ifCond .ne (40), 3) := by decide +kernel
theorem gd_34_14 : decode gm_c34 14 = .ok (.aload_n 0, 1) := by decide +kernel
theorem gd_34_15 : decode gm_c34 15 = .ok (.getfield 71, 3) := by decide +kernel
theorem gd_34_18 : decode gm_c34 18 = .ok (.bipush (13), 2) := by decide +kernel
theorem gd_34_20 : decode gm_c34 20 = .ok (.iload_n 1, 1) := by decide +kernel
theorem gd_34_21 : decode gm_c34 21 = .ok (.imul, 1) := by decide +kernel
theorem gd_34_22 : decode gm_c34 22 = .ok (.iload_n 2, 1) := by decide +kernel
theorem gd_34_23 : decode gm_c34 23 = .ok (.iadd, 1) := by decide +kernel
theorem gd_34_24 : decode gm_c34 24 = .ok (.iconst 1, 1) := by decide +kernel
theorem gd_34_25 : decode gm_c34 25 = .ok (.bastore, 1) := by decide +kernel
theorem gd_34_26 : decode gm_c34 26 = .ok (.aload_n 0, 1) := by decide +kernel
theorem gd_34_27 : decode gm_c34 27 = .ok (.getfield 74, 3) := by decide +kernel
theorem gd_34_30 : decode gm_c34 30 = .ok (.aload_n 0, 1) := by decide +kernel
theorem gd_34_31 : decode gm_c34 31 = .ok (.getfield 188, 3) := by decide +kernel
theorem gd_34_34 : decode gm_c34 34 = .ok (.bipush (13), 2) := by decide +kernel
theorem gd_34_36 : decode gm_c34 36 = .ok (.iload_n 1, 1) := by decide +kernel
theorem gd_34_37 : decode gm_c34 37 = .ok (.imul, 1) := by decide +kernel
theorem gd_34_38 : decode gm_c34 38 = .ok (.iload_n 2, 1) := by decide +kernel
theorem gd_34_39 : decode gm_c34 39 = .ok (.iadd, 1) := by decide +kernel
theorem gd_34_40 : decode gm_c34 40 = .ok (.iastore, 1) := by decide +kernel
theorem gd_34_41 : decode gm_c34 41 = .ok (.aload_n 0, 1) := by decide +kernel
theorem gd_34_42 : decode gm_c34 42 = .ok (.dup, 1) := by decide +kernel
theorem gd_34_43 : decode gm_c34 43 = .ok (.getfield 188, 3) := by decide +kernel
theorem gd_34_46 : decode gm_c34 46 = .ok (.iconst 1, 1) := by decide +kernel
theorem gd_34_47 : decode gm_c34 47 = .ok (.iadd, 1) := by decide +kernel
theorem gd_34_48 : decode gm_c34 48 = .ok (.putfield 188, 3) := by decide +kernel
theorem gd_34_51 : decode gm_c34 51 = .ok (.return_, 1) := by decide +kernel
theorem gd_35_0 : decode gm_c35 0 = .ok (.aload_n 0, 1) := by decide +kernel
theorem gd_35_1 : decode gm_c35 1 = .ok (.getfield 77, 3) := by decide +kernel
theorem gd_35_4 : decode gm_c35 4 = .ok (.bipush (13), 2) := by decide +kernel
theorem gd_35_6 : decode gm_c35 6 = .ok (.iload_n 1, 1) := by decide +kernel
theorem gd_35_7 : decode gm_c35 7 = .ok (.imul, 1) := by decide +kernel
theorem gd_35_8 : decode gm_c35 8 = .ok (.iload_n 2, 1) := by decide +kernel
theorem gd_35_9 : decode gm_c35 9 = .ok (.iadd, 1) := by decide +kernel
theorem gd_35_10 : decode gm_c35 10 = .ok (.baload, 1) := by decide +kernel
theorem gd_35_11 : decode gm_c35 11 = .ok (.ifCond .ne (25), 3) := by decide +kernel
theorem gd_35_14 : decode gm_c35 14 = .ok (.aload_n 0, 1) := by decide +kernel
theorem gd_35_15 : decode gm_c35 15 = .ok (.getfield 77, 3) := by decide +kernel
theorem gd_35_18 : decode gm_c35 18 = .ok (.bipush (13), 2) := by decide +kernel
theorem gd_35_20 : decode gm_c35 20 = .ok (.iload_n 1, 1) := by decide +kernel
theorem gd_35_21 : decode gm_c35 21 = .ok (.imul, 1) := by decide +kernel
theorem gd_35_22 : decode gm_c35 22 = .ok (.iload_n 2, 1) := by decide +kernel
theorem gd_35_23 : decode gm_c35 23 = .ok (.iadd, 1) := by decide +kernel
theorem gd_35_24 : decode gm_c35 24 = .ok (.iconst 1, 1) := by decide +kernel
theorem gd_35_25 : decode gm_c35 25 = .ok (.bastore, 1) := by decide +kernel
theorem gd_35_26 : decode gm_c35 26 = .ok (.aload_n 0, 1) := by decide +kernel
theorem gd_35_27 : decode gm_c35 27 = .ok (.dup, 1) := by decide +kernel
theorem gd_35_28 : decode gm_c35 28 = .ok (.getfield 191, 3) := by decide +kernel
theorem gd_35_31 : decode gm_c35 31 = .ok (.iconst 1, 1) := by decide +kernel
theorem gd_35_32 : decode gm_c35 32 = .ok (.iadd, 1) := by decide +kernel
theorem gd_35_33 : decode gm_c35 33 = .ok (.putfield 191, 3) := by decide +kernel
theorem gd_35_36 : decode gm_c35 36 = .ok (.aload_n 0, 1) := by decide +kernel
theorem gd_35_37 : decode gm_c35 37 = .ok (.bipush (40), 2) := by decide +kernel
theorem gd_35_39 : decode gm_c35 39 = .ok (.iload_n 1, 1) := by decide +kernel
theorem gd_35_40 : decode gm_c35 40 = .ok (.imul, 1) := by decide +kernel
theorem gd_35_41 : decode gm_c35 41 = .ok (.iload_n 2, 1) := by decide +kernel
theorem gd_35_42 : decode gm_c35 42 = .ok (.invokevirtual 194, 3) := by decide +kernel
theorem gd_35_45 : decode gm_c35 45 = .ok (.return_, 1) := by decide +kernel
theorem gd_36_0 : decode gm_c36 0 = .ok (.aload_n 0, 1) := by decide +kernel
theorem gd_36_1 : decode gm_c36 1 = .ok (.getfield 29, 3) := by decide +kernel
theorem gd_36_4 : decode gm_c36 4 = .ok (.iload_n 1, 1) := by decide +kernel
theorem gd_36_5 : decode gm_c36 5 = .ok (.iaload, 1) := by decide +kernel
theorem gd_36_6 : decode gm_c36 6 = .ok (.istore_n 3, 1) := by decide +kernel
theorem gd_36_7 : decode gm_c36 7 = .ok (.iload_n 3, 1) := by decide +kernel
theorem gd_36_8 : decode gm_c36 8 = .ok (.ifCond .ne (40), 3) := by decide +kernel
theorem gd_36_11 : decode gm_c36 11 = .ok (.aload_n 0, 1) := by decide +kernel
theorem gd_36_12 : decode gm_c36 12 = .ok (.aload_n 0, 1) := by decide +kernel
theorem gd_36_13 : decode gm_c36 13 = .ok (.getfield 68, 3) := by decide +kernel
theorem gd_36_16 : decode gm_c36 16 = .ok (.bipush (13), 2) := by decide +kernel
theorem gd_36_18 : decode gm_c36 18 = .ok (.iload_n 1, 1) := by decide +kernel
theorem gd_36_19 : decode gm_c36 19 = .ok (.imul, 1) := by decide +kernel
theorem gd_36_20 : decode gm_c36 20 = .ok (.iload_n 2, 1) := by decide +kernel
theorem gd_36_21 : decode gm_c36 21 = .ok (.iadd, 1) := by decide +kernel
theorem gd_36_22 : decode gm_c36 22 = .ok (.iaload, 1) := by decide +kernel
theorem gd_36_23 : decode gm_c36 23 = .ok (.ifCond .ge (15), 3) := by decide +kernel
theorem gd_36_26 : decode gm_c36 26 = .ok (.iload_n 2, 1) := by decide +kernel
theorem gd_36_27 : decode gm_c36 27 = .ok (.aload_n 0, 1) := by decide +kernel
theorem gd_36_28 : decode gm_c36 28 = .ok (.getfield 86, 3) := by decide +kernel
theorem gd_36_31 : decode gm_c36 31 = .ok (.if_icmp .le (7), 3) := by decide +kernel
theorem gd_36_34 : decode gm_c36 34 = .ok (.iload_n 2, 1) := by decide +kernel
theorem gd_36_35 : decode gm_c36 35 = .ok (.goto (7), 3) := by decide +kernel
theorem gd_36_38 : decode gm_c36 38 = .ok (.aload_n 0, 1) := by decide +kernel
theorem gd_36_39 : decode gm_c36 39 = .ok (.getfield 86, 3) := by decide +kernel
theorem gd_36_42 : decode gm_c36 42 = .ok (.putfield 86, 3) := by decide +kernel
theorem gd_36_45 : decode gm_c36 45 = .ok (.goto (229), 3) := by decide +kernel
theorem gd_36_48 : decode gm_c36 48 = .ok (.iload_n 3, 1) := by decide +kernel
theorem gd_36_49 : decode gm_c36 49 = .ok (.iconst 1, 1) := by decide +kernel
theorem gd_36_50 : decode gm_c36 50 = .ok (.if_icmp .ne (17), 3) := by decide +kernel
theorem gd_36_53 : decode gm_c36 53 = .ok (.aload_n 0, 1) := by decide +kernel
theorem gd_36_54 : decode gm_c36 54 = .ok (.aload_n 0, 1) := by decide +kernel
theorem gd_36_55 : decode gm_c36 55 = .ok (.getfield 32, 3) := by decide +kernel
theorem gd_36_58 : decode gm_c36 58 = .ok (.iload_n 1, 1) := by decide +kernel
theorem gd_36_59 : decode gm_c36 59 = .ok (.iaload, 1) := by decide +kernel
theorem gd_36_60 : decode gm_c36 60 = .ok (.iload_n 2, 1) := by decide +kernel
theorem gd_36_61 : decode gm_c36 61 = .ok (.invokevirtual 197, 3) := by decide +kernel
theorem gd_36_64 : decode gm_c36 64 = .ok (.goto (210), 3) := by decide +kernel
theorem gd_36_67 : decode gm_c36 67 = .ok (.iload_n 3, 1) := by decide +kernel
theorem gd_36_68 : decode gm_c36 68 = .ok (.bipush (10), 2) := by decide +kernel
theorem gd_36_70 : decode gm_c36 70 = .ok (.if_icmp .ne (68), 3) := by decide +kernel
theorem gd_36_73 : decode gm_c36 73 = .ok (.iconst 1, 1) := by decide +kernel
theorem gd_36_74 : decode gm_c36 74 = .ok (.istore 4, 2) := by decide +kernel
theorem gd_36_76 : decode gm_c36 76 = .ok (.aload_n 0, 1) := by decide +kernel
theorem gd_36_77 : decode gm_c36 77 = .ok (.getfield 32, 3) := by decide +kernel
theorem gd_36_80 : decode gm_c36 80 = .ok (.iload_n 1, 1) := by decide +kernel
theorem gd_36_81 : decode gm_c36 81 = .ok (.iaload, 1) := by decide +kernel
theorem gd_36_82 : decode gm_c36 82 = .ok (.istore 5, 2) := by decide +kernel
theorem gd_36_84 : decode gm_c36 84 = .ok (.iload 5, 2) := by decide +kernel
theorem gd_36_86 : decode gm_c36 86 = .ok (.ifCond .lt (49), 3) := by decide +kernel
theorem gd_36_89 : decode gm_c36 89 = .ok (.iload 4, 2) := by decide +kernel
theorem gd_36_91 : decode gm_c36 91 = .ok (.ifCond .eq (44), 3) := by decide +kernel
theorem gd_36_94 : decode gm_c36 94 = .ok (.aload_n 0, 1) := by decide +kernel
theorem gd_36_95 : decode gm_c36 95 = .ok (.iload 5, 2) := by decide +kernel
theorem gd_36_97 : decode gm_c36 97 = .ok (.iload_n 2, 1) := by decide +kernel
theorem gd_36_98 : decode gm_c36 98 = .ok (.invokevirtual 194, 3) := by decide +kernel
theorem gd_36_101 : decode gm_c36 101 = .ok (.aload_n 0, 1) := by decide +kernel
theorem gd_36_102 : decode gm_c36 102 = .ok (.getfield 68, 3) := by decide +kernel
theorem gd_36_105 : decode gm_c36 105 = .ok (.bipush (13), 2) := by decide +kernel
theorem gd_36_107 : decode gm_c36 107 = .ok (.iload 5, 2) := by decide +kernel
theorem gd_36_109 : decode gm_c36 109 = .ok (.imul, 1) := by decide +kernel
theorem gd_36_110 : decode gm_c36 110 = .ok (.iload_n 2, 1) := by decide +kernel
theorem gd_36_111 : decode gm_c36 111 = .ok (.iadd, 1) := by decide +kernel
theorem gd_36_112 : decode gm_c36 112 = .ok (.iaload, 1) := by decide +kernel
theorem gd_36_113 : decode gm_c36 113 = .ok (.ifCond .ge (7), 3) := by decide +kernel
theorem gd_36_116 : decode gm_c36 116 = .ok (.iconst 1, 1) := by decide +kernel
theorem gd_36_117 : decode gm_c36 117 = .ok (.goto (4), 3) := by decide +kernel
theorem gd_36_120 : decode gm_c36 120 = .ok (.iconst 0, 1) := by decide +kernel
theorem gd_36_121 : decode gm_c36 121 = .ok (.istore 4, 2) := by decide +kernel
theorem gd_36_123 : decode gm_c36 123 = .ok (.aload_n 0, 1) := by decide +kernel
theorem gd_36_124 : decode gm_c36 124 = .ok (.getfield 38, 3) := by decide +kernel
theorem gd_36_127 : decode gm_c36 127 = .ok (.iload 5, 2) := by decide +kernel
theorem gd_36_129 : decode gm_c36 129 = .ok (.iaload, 1) := by decide +kernel
theorem gd_36_130 : decode gm_c36 130 = .ok (.istore 5, 2) := by decide +kernel
theorem gd_36_132 : decode gm_c36 132 = .ok (.goto (-48), 3) := by decide +kernel
theorem gd_36_135 : decode gm_c36 135 = .ok (.goto (139), 3) := by decide +kernel
theorem gd_36_138 : decode gm_c36 138 = .ok (.iload_n 3, 1) := by decide +kernel
theorem gd_36_139 : decode gm_c36 139 = .ok (.bipush (9), 2) := by decide +kernel
theorem gd_36_141 : decode gm_c36 141 = .ok (.if_icmp .ne (62), 3) := by decide +kernel
theorem gd_36_144 : decode gm_c36 144 = .ok (.iload_n 2, 1) := by decide +kernel
theorem gd_36_145 : decode gm_c36 145 = .ok (.istore 4, 2) := by decide +kernel
theorem gd_36_147 : decode gm_c36 147 = .ok (.aload_n 0, 1) := by decide +kernel
theorem gd_36_148 : decode gm_c36 148 = .ok (.getfield 32, 3) := by decide +kernel
theorem gd_36_151 : decode gm_c36 151 = .ok (.iload_n 1, 1) := by decide +kernel
theorem gd_36_152 : decode gm_c36 152 = .ok (.iaload, 1) := by decide +kernel
theorem gd_36_153 : decode gm_c36 153 = .ok (.istore 5, 2) := by decide +kernel
theorem gd_36_155 : decode gm_c36 155 = .ok (.iload 5, 2) := by decide +kernel
theorem gd_36_157 : decode gm_c36 157 = .ok (.ifCond .lt (43), 3) := by decide +kernel
theorem gd_36_160 : decode gm_c36 160 = .ok (.iload 4, 2) := by decide +kernel
theorem gd_36_162 : decode gm_c36 162 = .ok (.ifCond .lt (38), 3) := by decide +kernel
theorem gd_36_165 : decode gm_c36 165 = .ok (.aload_n 0, 1) := by decide +kernel
theorem gd_36_166 : decode gm_c36 166 = .ok (.iload 5, 2) := by decide +kernel
theorem gd_36_168 : decode gm_c36 168 = .ok (.iload 4, 2) := by decide +kernel
theorem gd_36_170 : decode gm_c36 170 = .ok (.invokevirtual 194, 3) := by decide +kernel
theorem gd_36_173 : decode gm_c36 173 = .ok (.aload_n 0, 1) := by decide +kernel
theorem gd_36_174 : decode gm_c36 174 = .ok (.getfield 68, 3) := by decide +kernel
theorem gd_36_177 : decode gm_c36 177 = .ok (.bipush (13), 2) := by decide +kernel
theorem gd_36_179 : decode gm_c36 179 = .ok (.iload 5, 2) := by decide +kernel
theorem gd_36_181 : decode gm_c36 181 = .ok (.imul, 1) := by decide +kernel
theorem gd_36_182 : decode gm_c36 182 = .ok (.iload 4, 2) := by decide +kernel
theorem gd_36_184 : decode gm_c36 184 = .ok (.iadd, 1) := by decide +kernel
theorem gd_36_185 : decode gm_c36 185 = .ok (.iaload, 1) := by decide +kernel
theorem gd_36_186 : decode gm_c36 186 = .ok (.istore 4, 2) := by decide +kernel
theorem gd_36_188 : decode gm_c36 188 = .ok (.aload_n 0, 1) := by decide +kernel
theorem gd_36_189 : decode gm_c36 189 = .ok (.getfield 38, 3) := by decide +kernel
theorem gd_36_192 : decode gm_c36 192 = .ok (.iload 5, 2) := by decide +kernel
theorem gd_36_194 : decode gm_c36 194 = .ok (.iaload, 1) := by decide +kernel
theorem gd_36_195 : decode gm_c36 195 = .ok (.istore 5, 2) := by decide +kernel
theorem gd_36_197 : decode gm_c36 197 = .ok (.goto (-42), 3) := by decide +kernel
theorem gd_36_200 : decode gm_c36 200 = .ok (.goto (74), 3) := by decide +kernel
theorem gd_36_203 : decode gm_c36 203 = .ok (.iload_n 3, 1) := by decide +kernel
theorem gd_36_204 : decode gm_c36 204 = .ok (.iconst 4, 1) := by decide +kernel
theorem gd_36_205 : decode gm_c36 205 = .ok (.if_icmp .eq (8), 3) := by decide +kernel
theorem gd_36_208 : decode gm_c36 208 = .ok (.iload_n 3, 1) := by decide +kernel
theorem gd_36_209 : decode gm_c36 209 = .ok (.iconst 5, 1) := by decide +kernel
theorem gd_36_210 : decode gm_c36 210 = .ok (.if_icmp .ne (48), 3) := by decide +kernel
theorem gd_36_213 : decode gm_c36 213 = .ok (.iload_n 2, 1) := by decide +kernel
theorem gd_36_214 : decode gm_c36 214 = .ok (.istore 4, 2) := by decide +kernel
theorem gd_36_216 : decode gm_c36 216 = .ok (.iload 4, 2) := by decide +kernel
theorem gd_36_218 : decode gm_c36 218 = .ok (.ifCond .lt (37), 3) := by decide +kernel
theorem gd_36_221 : decode gm_c36 221 = .ok (.aload_n 0, 1) := by decide +kernel
theorem gd_36_222 : decode gm_c36 222 = .ok (.aload_n 0, 1) := by decide +kernel
theorem gd_36_223 : decode gm_c36 223 = .ok (.getfield 32, 3) := by decide +kernel
theorem gd_36_226 : decode gm_c36 226 = .ok (.iload_n 1, 1) := by decide +kernel
theorem gd_36_227 : decode gm_c36 227 = .ok (.iaload, 1) := by decide +kernel
theorem gd_36_228 : decode gm_c36 228 = .ok (.iload 4, 2) := by decide +kernel
theorem gd_36_230 : decode gm_c36 230 = .ok (.invokevirtual 194, 3) := by decide +kernel
theorem gd_36_233 : decode gm_c36 233 = .ok (.aload_n 0, 1) := by decide +kernel
theorem gd_36_234 : decode gm_c36 234 = .ok (.getfield 68, 3) := by decide +kernel
theorem gd_36_237 : decode gm_c36 237 = .ok (.bipush (13), 2) := by decide +kernel
theorem gd_36_239 : decode gm_c36 239 = .ok (.aload_n 0, 1) := by decide +kernel
theorem gd_36_240 : decode gm_c36 240 = .ok (.getfield 32, 3) := by decide +kernel
theorem gd_36_243 : decode gm_c36 243 = .ok (.iload_n 1, 1) := by decide +kernel
theorem gd_36_244 : decode gm_c36 244 = .ok (.iaload, 1) := by decide +kernel
theorem gd_36_245 : decode gm_c36 245 = .ok (.imul, 1) := by decide +kernel
theorem gd_36_246 : decode gm_c36 246 = .ok (.iload 4, 2) := by decide +kernel
theorem gd_36_248 : decode gm_c36 248 = .ok (.iadd, 1) := by decide +kernel
theorem gd_36_249 : decode gm_c36 249 = .ok (.iaload, 1) := by decide +kernel
theorem gd_36_250 : decode gm_c36 250 = .ok (.istore 4, 2) := by decide +kernel
theorem gd_36_252 : decode gm_c36 252 = .ok (.goto (-36), 3) := by decide +kernel
theorem gd_36_255 : decode gm_c36 255 = .ok (.goto (19), 3) := by decide +kernel
theorem gd_36_258 : decode gm_c36 258 = .ok (.iload_n 3, 1) := by decide +kernel
theorem gd_36_259 : decode gm_c36 259 = .ok (.iconst 2, 1) := by decide +kernel
theorem gd_36_260 : decode gm_c36 260 = .ok (.if_icmp .eq (14), 3) := by decide +kernel
theorem gd_36_263 : decode gm_c36 263 = .ok (.aload_n 0, 1) := by decide +kernel
theorem gd_36_264 : decode gm_c36 264 = .ok (.aload_n 0, 1) := by decide +kernel
theorem gd_36_265 : decode gm_c36 265 = .ok (.getfield 32, 3) := by decide +kernel
theorem gd_36_268 : decode gm_c36 268 = .ok (.iload_n 1, 1) := by decide +kernel
theorem gd_36_269 : decode gm_c36 269 = .ok (.iaload, 1) := by decide +kernel
theorem gd_36_270 : decode gm_c36 270 = .ok (.iload_n 2, 1) := by decide +kernel
theorem gd_36_271 : decode gm_c36 271 = .ok (.invokevirtual 194, 3) := by decide +kernel
theorem gd_36_274 : decode gm_c36 274 = .ok (.return_, 1) := by decide +kernel
theorem gd_37_0 : decode gm_c37 0 = .ok (.iconst 0, 1) := by decide +kernel
theorem gd_37_1 : decode gm_c37 1 = .ok (.istore_n 3, 1) := by decide +kernel
theorem gd_37_2 : decode gm_c37 2 = .ok (.iload_n 3, 1) := by decide +kernel
theorem gd_37_3 : decode gm_c37 3 = .ok (.sipush (2600), 3) := by decide +kernel
theorem gd_37_6 : decode gm_c37 6 = .ok (.if_icmp .ge (16), 3) := by decide +kernel
theorem gd_37_9 : decode gm_c37 9 = .ok (.aload_n 0, 1) := by decide +kernel
theorem gd_37_10 : decode gm_c37 10 = .ok (.getfield 71, 3) := by decide +kernel
theorem gd_37_13 : decode gm_c37 13 = .ok (.iload_n 3, 1) := by decide +kernel
theorem gd_37_14 : decode gm_c37 14 = .ok (.iconst 0, 1) := by decide +kernel
theorem gd_37_15 : decode gm_c37 15 = .ok (.bastore, 1) := by decide +kernel
theorem gd_37_16 : decode gm_c37 16 = .ok (.iinc 3 (1), 3) := by decide +kernel
theorem gd_37_19 : decode gm_c37 19 = .ok (.goto (-17), 3) := by decide +kernel
theorem gd_37_22 : decode gm_c37 22 = .ok (.iconst 0, 1) := by decide +kernel
theorem gd_37_23 : decode gm_c37 23 = .ok (.istore_n 3, 1) := by decide +kernel
theorem gd_37_24 : decode gm_c37 24 = .ok (.iload_n 3, 1) := by decide +kernel
theorem gd_37_25 : decode gm_c37 25 = .ok (.bipush (52), 2) := by decide +kernel
theorem gd_37_27 : decode gm_c37 27 = .ok (.if_icmp .ge (16), 3) := by decide +kernel
theorem gd_37_30 : decode gm_c37 30 = .ok (.aload_n 0, 1) := by decide +kernel
theorem gd_37_31 : decode gm_c37 31 = .ok (.getfield 77, 3) := by decide +kernel
theorem gd_37_34 : decode gm_c37 34 = .ok (.iload_n 3, 1) := by decide +kernel
theorem gd_37_35 : decode gm_c37 35 = .ok (.iconst 0, 1) := by decide +kernel
theorem gd_37_36 : decode gm_c37 36 = .ok (.bastore, 1) := by decide +kernel
theorem gd_37_37 : decode gm_c37 37 = .ok (.iinc 3 (1), 3) := by decide +kernel
theorem gd_37_40 : decode gm_c37 40 = .ok (.goto (-16), 3) := by decide +kernel
theorem gd_37_43 : decode gm_c37 43 = .ok (.aload_n 0, 1) := by decide +kernel
theorem gd_37_44 : decode gm_c37 44 = .ok (.iconst (-1), 1) := by decide +kernel
theorem gd_37_45 : decode gm_c37 45 = .ok (.putfield 86, 3) := by decide +kernel
theorem gd_37_48 : decode gm_c37 48 = .ok (.aload_n 0, 1) := by decide +kernel
theorem gd_37_49 : decode gm_c37 49 = .ok (.iconst 0, 1) := by decide +kernel
theorem gd_37_50 : decode gm_c37 50 = .ok (.putfield 191, 3) := by decide +kernel
theorem gd_37_53 : decode gm_c37 53 = .ok (.aload_n 0, 1) := by decide +kernel
theorem gd_37_54 : decode gm_c37 54 = .ok (.iconst 0, 1) := by decide +kernel
theorem gd_37_55 : decode gm_c37 55 = .ok (.putfield 188, 3) := by decide +kernel
theorem gd_37_58 : decode gm_c37 58 = .ok (.aload_n 0, 1) := by decide +kernel
theorem gd_37_59 : decode gm_c37 59 = .ok (.iload_n 1, 1) := by decide +kernel
theorem gd_37_60 : decode gm_c37 60 = .ok (.iload_n 2, 1) := by decide +kernel
theorem gd_37_61 : decode gm_c37 61 = .ok (.invokevirtual 197, 3) := by decide +kernel
theorem gd_37_64 : decode gm_c37 64 = .ok (.aload_n 0, 1) := by decide +kernel
theorem gd_37_65 : decode gm_c37 65 = .ok (.getfield 188, 3) := by decide +kernel
theorem gd_37_68 : decode gm_c37 68 = .ok (.ifCond .le (38), 3) := by decide +kernel
theorem gd_37_71 : decode gm_c37 71 = .ok (.aload_n 0, 1) := by decide +kernel
theorem gd_37_72 : decode gm_c37 72 = .ok (.dup, 1) := by decide +kernel
theorem gd_37_73 : decode gm_c37 73 = .ok (.getfield 188, 3) := by decide +kernel
theorem gd_37_76 : decode gm_c37 76 = .ok (.iconst 1, 1) := by decide +kernel
theorem gd_37_77 : decode gm_c37 77 = .ok (.isub, 1) := by decide +kernel
theorem gd_37_78 : decode gm_c37 78 = .ok (.putfield 188, 3) := by decide +kernel
theorem gd_37_81 : decode gm_c37 81 = .ok (.aload_n 0, 1) := by decide +kernel
theorem gd_37_82 : decode gm_c37 82 = .ok (.getfield 74, 3) := by decide +kernel
theorem gd_37_85 : decode gm_c37 85 = .ok (.aload_n 0, 1) := by decide +kernel
theorem gd_37_86 : decode gm_c37 86 = .ok (.getfield 188, 3) := by decide +kernel
theorem gd_37_89 : decode gm_c37 89 = .ok (.iaload, 1) := by decide +kernel
theorem gd_37_90 : decode gm_c37 90 = .ok (.istore_n 3, 1) := by decide +kernel
theorem gd_37_91 : decode gm_c37 91 = .ok (.aload_n 0, 1) := by decide +kernel
theorem gd_37_92 : decode gm_c37 92 = .ok (.iload_n 3, 1) := by decide +kernel
theorem gd_37_93 : decode gm_c37 93 = .ok (.bipush (13), 2) := by decide +kernel
theorem gd_37_95 : decode gm_c37 95 = .ok (.idiv, 1) := by decide +kernel
theorem gd_37_96 : decode gm_c37 96 = .ok (.iload_n 3, 1) := by decide +kernel
theorem gd_37_97 : decode gm_c37 97 = .ok (.bipush (13), 2) := by decide +kernel
theorem gd_37_99 : decode gm_c37 99 = .ok (.irem, 1) := by decide +kernel
theorem gd_37_100 : decode gm_c37 100 = .ok (.invokevirtual 200, 3) := by decide +kernel
theorem gd_37_103 : decode gm_c37 103 = .ok (.goto (-39), 3) := by decide +kernel
theorem gd_37_106 : decode gm_c37 106 = .ok (.return_, 1) := by decide +kernel
theorem gd_38_0 : decode gm_c38 0 = .ok (.aload_n 0, 1) := by decide +kernel
theorem gd_38_1 : decode gm_c38 1 = .ok (.getfield 203, 3) := by decide +kernel
theorem gd_38_4 : decode gm_c38 4 = .ok (.bipush (40), 2) := by decide +kernel
theorem gd_38_6 : decode gm_c38 6 = .ok (.if_icmp .ge (33), 3) := by decide +kernel
theorem gd_38_9 : decode gm_c38 9 = .ok (.aload_n 0, 1) := by decide +kernel
theorem gd_38_10 : decode gm_c38 10 = .ok (.getfield 80, 3) := by decide +kernel
theorem gd_38_13 : decode gm_c38 13 = .ok (.aload_n 0, 1) := by decide +kernel
theorem gd_38_14 : decode gm_c38 14 = .ok (.getfield 203, 3) := by decide +kernel
theorem gd_38_17 : decode gm_c38 17 = .ok (.iload_n 1, 1) := by decide +kernel
theorem gd_38_18 : decode gm_c38 18 = .ok (.iastore, 1) := by decide +kernel
theorem gd_38_19 : decode gm_c38 19 = .ok (.aload_n 0, 1) := by decide +kernel
theorem gd_38_20 : decode gm_c38 20 = .ok (.getfield 83, 3) := by decide +kernel
theorem gd_38_23 : decode gm_c38 23 = .ok (.aload_n 0, 1) := by decide +kernel
theorem gd_38_24 : decode gm_c38 24 = .ok (.getfield 203, 3) := by decide +kernel
theorem gd_38_27 : decode gm_c38 27 = .ok (.iload_n 2, 1) := by decide +kernel
theorem gd_38_28 : decode gm_c38 28 = .ok (.iastore, 1) := by decide +kernel
theorem gd_38_29 : decode gm_c38 29 = .ok (.aload_n 0, 1) := by decide +kernel
theorem gd_38_30 : decode gm_c38 30 = .ok (.dup, 1) := by decide +kernel
theorem gd_38_31 : decode gm_c38 31 = .ok (.getfield 203, 3) := by decide +kernel
theorem gd_38_34 : decode gm_c38 34 = .ok (.iconst 1, 1) := by decide +kernel
theorem gd_38_35 : decode gm_c38 35 = .ok (.iadd, 1) := by decide +kernel
theorem gd_38_36 : decode gm_c38 36 = .ok (.putfield 203, 3) := by decide +kernel
theorem gd_38_39 : decode gm_c38 39 = .ok (.return_, 1) := by decide +kernel
theorem gd_39_0 : decode gm_c39 0 = .ok (.iload_n 1, 1) := by decide +kernel
theorem gd_39_1 : decode gm_c39 1 = .ok (.istore_n 2, 1) := by decide +kernel
theorem gd_39_2 : decode gm_c39 2 = .ok (.aload_n 0, 1) := by decide +kernel
theorem gd_39_3 : decode gm_c39 3 = .ok (.getfield 188, 3) := by decide +kernel
theorem gd_39_6 : decode gm_c39 6 = .ok (.iconst 1, 1) := by decide +kernel
theorem gd_39_7 : decode gm_c39 7 = .ok (.isub, 1) := by decide +kernel
theorem gd_39_8 : decode gm_c39 8 = .ok (.istore_n 3, 1) := by decide +kernel
theorem gd_39_9 : decode gm_c39 9 = .ok (.iload_n 2, 1) := by decide +kernel
theorem gd_39_10 : decode gm_c39 10 = .ok (.iload_n 3, 1) := by decide +kernel
theorem gd_39_11 : decode gm_c39 11 = .ok (.if_icmp .ge (40), 3) := by decide +kernel
theorem gd_39_14 : decode gm_c39 14 = .ok (.aload_n 0, 1) := by decide +kernel
theorem gd_39_15 : decode gm_c39 15 = .ok (.getfield 74, 3) := by decide +kernel
theorem gd_39_18 : decode gm_c39 18 = .ok (.iload_n 2, 1) := by decide +kernel
theorem gd_39_19 : decode gm_c39 19 = .ok (.iaload, 1) := by decide +kernel
theorem gd_39_20 : decode gm_c39 20 = .ok (.istore 4, 2) := by decide +kernel
theorem gd_39_22 : decode gm_c39 22 = .ok (.aload_n 0, 1) := by decide +kernel
theorem gd_39_23 : decode gm_c39 23 = .ok (.getfield 74, 3) := by decide +kernel
theorem gd_39_26 : decode gm_c39 26 = .ok (.iload_n 2, 1) := by decide +kernel
theorem gd_39_27 : decode gm_c39 27 = .ok (.aload_n 0, 1) := by decide +kernel
theorem gd_39_28 : decode gm_c39 28 = .ok (.getfield 74, 3) := by decide +kernel
theorem gd_39_31 : decode gm_c39 31 = .ok (.iload_n 3, 1) := by decide +kernel
theorem gd_39_32 : decode gm_c39 32 = .ok (.iaload, 1) := by decide +kernel
theorem gd_39_33 : decode gm_c39 33 = .ok (.iastore, 1) := by decide +kernel
theorem gd_39_34 : decode gm_c39 34 = .ok (.aload_n 0, 1) := by decide +kernel
theorem gd_39_35 : decode gm_c39 35 = .ok (.getfield 74, 3) := by decide +kernel
theorem gd_39_38 : decode gm_c39 38 = .ok (.iload_n 3, 1) := by decide +kernel
theorem gd_39_39 : decode gm_c39 39 = .ok (.iload 4, 2) := by decide +kernel
theorem gd_39_41 : decode gm_c39 41 = .ok (.iastore, 1) := by decide +kernel
theorem gd_39_42 : decode gm_c39 42 = .ok (.iinc 2 (1), 3) := by decide +kernel
theorem gd_39_45 : decode gm_c39 45 = .ok (.iinc 3 (-1), 3) := by decide +kernel
theorem gd_39_48 : decode gm_c39 48 = .ok (.goto (-39), 3) := by decide +kernel
theorem gd_39_51 : decode gm_c39 51 = .ok (.return_, 1) := by decide +kernel
theorem gd_40_0 : decode gm_c40 0 = .ok (.aload_n 0, 1) := by decide +kernel
theorem gd_40_1 : decode gm_c40 1 = .ok (.getfield 74, 3) := by decide +kernel
theorem gd_40_4 : decode gm_c40 4 = .ok (.aload_n 0, 1) := by decide +kernel
theorem gd_40_5 : decode gm_c40 5 = .ok (.getfield 188, 3) := by decide +kernel
theorem gd_40_8 : decode gm_c40 8 = .ok (.bipush (13), 2) := by decide +kernel
theorem gd_40_10 : decode gm_c40 10 = .ok (.iload_n 1, 1) := by decide +kernel
theorem gd_40_11 : decode gm_c40 11 = .ok (.imul, 1) := by decide +kernel
theorem gd_40_12 : decode gm_c40 12 = .ok (.iload_n 2, 1) := by decide +kernel
theorem gd_40_13 : decode gm_c40 13 = .ok (.iadd, 1) := by decide +kernel
theorem gd_40_14 : decode gm_c40 14 = .ok (.iastore, 1) := by decide +kernel
theorem gd_40_15 : decode gm_c40 15 = .ok (.aload_n 0, 1) := by decide +kernel
theorem gd_40_16 : decode gm_c40 16 = .ok (.dup, 1) := by decide +kernel
theorem gd_40_17 : decode gm_c40 17 = .ok (.getfield 188, 3) := by decide +kernel
theorem gd_40_20 : decode gm_c40 20 = .ok (.iconst 1, 1) := by decide +kernel
theorem gd_40_21 : decode gm_c40 21 = .ok (.iadd, 1) := by decide +kernel
theorem gd_40_22 : decode gm_c40 22 = .ok (.putfield 188, 3) := by decide +kernel
theorem gd_40_25 : decode gm_c40 25 = .ok (.return_, 1) := by decide +kernel
theorem gd_41_0 : decode gm_c41 0 = .ok (.aload_n 0, 1) := by decide +kernel
theorem gd_41_1 : decode gm_c41 1 = .ok (.getfield 29, 3) := by decide +kernel
theorem gd_41_4 : decode gm_c41 4 = .ok (.iload_n 1, 1) := by decide +kernel
theorem gd_41_5 : decode gm_c41 5 = .ok (.iaload, 1) := by decide +kernel
theorem gd_41_6 : decode gm_c41 6 = .ok (.istore_n 3, 1) := by decide +kernel
theorem gd_41_7 : decode gm_c41 7 = .ok (.aload_n 0, 1) := by decide +kernel
theorem gd_41_8 : decode gm_c41 8 = .ok (.getfield 188, 3) := by decide +kernel
theorem gd_41_11 : decode gm_c41 11 = .ok (.istore 4, 2) := by decide +kernel
theorem gd_41_13 : decode gm_c41 13 = .ok (.iload_n 3, 1) := by decide +kernel
theorem gd_41_14 : decode gm_c41 14 = .ok (.iconst 2, 1) := by decide +kernel
theorem gd_41_15 : decode gm_c41 15 = .ok (.if_icmp .ne (12), 3) := by decide +kernel
theorem gd_41_18 : decode gm_c41 18 = .ok (.aload_n 0, 1) := by decide +kernel
theorem gd_41_19 : decode gm_c41 19 = .ok (.iload_n 2, 1) := by decide +kernel
theorem gd_41_20 : decode gm_c41 20 = .ok (.iload_n 2, 1) := by decide +kernel
theorem gd_41_21 : decode gm_c41 21 = .ok (.invokevirtual 206, 3) := by decide +kernel
theorem gd_41_24 : decode gm_c41 24 = .ok (.goto (271), 3) := by decide +kernel
theorem gd_41_27 : decode gm_c41 27 = .ok (.iload_n 3, 1) := by decide +kernel
theorem gd_41_28 : decode gm_c41 28 = .ok (.iconst 3, 1) := by decide +kernel
theorem gd_41_29 : decode gm_c41 29 = .ok (.if_icmp .ne (33), 3) := by decide +kernel
theorem gd_41_32 : decode gm_c41 32 = .ok (.aload_n 0, 1) := by decide +kernel
theorem gd_41_33 : decode gm_c41 33 = .ok (.iload_n 2, 1) := by decide +kernel
theorem gd_41_34 : decode gm_c41 34 = .ok (.aload_n 0, 1) := by decide +kernel
theorem gd_41_35 : decode gm_c41 35 = .ok (.getfield 68, 3) := by decide +kernel
theorem gd_41_38 : decode gm_c41 38 = .ok (.bipush (13), 2) := by decide +kernel
theorem gd_41_40 : decode gm_c41 40 = .ok (.iload_n 1, 1) := by decide +kernel
theorem gd_41_41 : decode gm_c41 41 = .ok (.imul, 1) := by decide +kernel
theorem gd_41_42 : decode gm_c41 42 = .ok (.iload_n 2, 1) := by decide +kernel
theorem gd_41_43 : decode gm_c41 43 = .ok (.iadd, 1) := by decide +kernel
theorem gd_41_44 : decode gm_c41 44 = .ok (.iaload, 1) := by decide +kernel
theorem gd_41_45 : decode gm_c41 45 = .ok (.invokevirtual 206, 3) := by decide +kernel
theorem gd_41_48 : decode gm_c41 48 = .ok (.aload_n 0, 1) := by decide +kernel
theorem gd_41_49 : decode gm_c41 49 = .ok (.aload_n 0, 1) := by decide +kernel
theorem gd_41_50 : decode gm_c41 50 = .ok (.getfield 32, 3) := by decide +kernel
theorem gd_41_53 : decode gm_c41 53 = .ok (.iload_n 1, 1) := by decide +kernel
theorem gd_41_54 : decode gm_c41 54 = .ok (.iaload, 1) := by decide +kernel
theorem gd_41_55 : decode gm_c41 55 = .ok (.iload_n 2, 1) := by decide +kernel
theorem gd_41_56 : decode gm_c41 56 = .ok (.invokevirtual 209, 3) := by decide +kernel
theorem gd_41_59 : decode gm_c41 59 = .ok (.goto (236), 3) := by decide +kernel
theorem gd_41_62 : decode gm_c41 62 = .ok (.iload_n 3, 1) := by decide +kernel
theorem gd_41_63 : decode gm_c41 63 = .ok (.iconst 1, 1) := by decide +kernel
theorem gd_41_64 : decode gm_c41 64 = .ok (.if_icmp .ne (20), 3) := by decide +kernel
theorem gd_41_67 : decode gm_c41 67 = .ok (.aload_n 0, 1) := by decide +kernel
theorem gd_41_68 : decode gm_c41 68 = .ok (.bipush (40), 2) := by decide +kernel
theorem gd_41_70 : decode gm_c41 70 = .ok (.aload_n 0, 1) := by decide +kernel
theorem gd_41_71 : decode gm_c41 71 = .ok (.getfield 32, 3) := by decide +kernel
theorem gd_41_74 : decode gm_c41 74 = .ok (.iload_n 1, 1) := by decide +kernel
theorem gd_41_75 : decode gm_c41 75 = .ok (.iaload, 1) := by decide +kernel
theorem gd_41_76 : decode gm_c41 76 = .ok (.imul, 1) := by decide +kernel
theorem gd_41_77 : decode gm_c41 77 = .ok (.iload_n 2, 1) := by decide +kernel
theorem gd_41_78 : decode gm_c41 78 = .ok (.invokevirtual 209, 3) := by decide +kernel
theorem gd_41_81 : decode gm_c41 81 = .ok (.goto (214), 3) := by decide +kernel
theorem gd_41_84 : decode gm_c41 84 = .ok (.iload_n 3, 1) := by decide +kernel
theorem gd_41_85 : decode gm_c41 85 = .ok (.bipush (10), 2) := by decide +kernel
theorem gd_41_87 : decode gm_c41 87 = .ok (.if_icmp .ne (48), 3) := by decide +kernel
theorem gd_41_90 : decode gm_c41 90 = .ok (.aload_n 0, 1) := by decide +kernel
theorem gd_41_91 : decode gm_c41 91 = .ok (.getfield 32, 3) := by decide +kernel
theorem gd_41_94 : decode gm_c41 94 = .ok (.iload_n 1, 1) := by decide +kernel
theorem gd_41_95 : decode gm_c41 95 = .ok (.iaload, 1) := by decide +kernel
theorem gd_41_96 : decode gm_c41 96 = .ok (.istore 5, 2) := by decide +kernel
theorem gd_41_98 : decode gm_c41 98 = .ok (.aload_n 0, 1) := by decide +kernel
theorem gd_41_99 : decode gm_c41 99 = .ok (.getfield 68, 3) := by decide +kernel
theorem gd_41_102 : decode gm_c41 102 = .ok (.bipush (13), 2) := by decide +kernel
theorem gd_41_104 : decode gm_c41 104 = .ok (.iload 5, 2) := by decide +kernel
theorem gd_41_106 : decode gm_c41 106 = .ok (.imul, 1) := by decide +kernel
theorem gd_41_107 : decode gm_c41 107 = .ok (.iload_n 2, 1) := by decide +kernel
theorem gd_41_108 : decode gm_c41 108 = .ok (.iadd, 1) := by decide +kernel
theorem gd_41_109 : decode gm_c41 109 = .ok (.iaload, 1) := by decide +kernel
theorem gd_41_110 : decode gm_c41 110 = .ok (.ifCond .ge (15), 3) := by decide +kernel
theorem gd_41_113 : decode gm_c41 113 = .ok (.aload_n 0, 1) := by decide +kernel
theorem gd_41_114 : decode gm_c41 114 = .ok (.getfield 38, 3) := by decide +kernel
theorem gd_41_117 : decode gm_c41 117 = .ok (.iload 5, 2) := by decide +kernel
theorem gd_41_119 : decode gm_c41 119 = .ok (.iaload, 1) := by decide +kernel
theorem gd_41_120 : decode gm_c41 120 = .ok (.istore 5, 2) := by decide +kernel
theorem gd_41_122 : decode gm_c41 122 = .ok (.goto (-24), 3) := by decide +kernel
theorem gd_41_125 : decode gm_c41 125 = .ok (.aload_n 0, 1) := by decide +kernel
theorem gd_41_126 : decode gm_c41 126 = .ok (.iload 5, 2) := by decide +kernel
theorem gd_41_128 : decode gm_c41 128 = .ok (.iload_n 2, 1) := by decide +kernel
theorem gd_41_129 : decode gm_c41 129 = .ok (.invokevirtual 209, 3) := by decide +kernel
theorem gd_41_132 : decode gm_c41 132 = .ok (.goto (163), 3) := by decide +kernel
theorem gd_41_135 : decode gm_c41 135 = .ok (.iload_n 3, 1) := by decide +kernel
theorem gd_41_136 : decode gm_c41 136 = .ok (.bipush (9), 2) := by decide +kernel
theorem gd_41_138 : decode gm_c41 138 = .ok (.if_icmp .ne (63), 3) := by decide +kernel
theorem gd_41_141 : decode gm_c41 141 = .ok (.iload_n 2, 1) := by decide +kernel
theorem gd_41_142 : decode gm_c41 142 = .ok (.istore 5, 2) := by decide +kernel
theorem gd_41_144 : decode gm_c41 144 = .ok (.aload_n 0, 1) := by decide +kernel
theorem gd_41_145 : decode gm_c41 145 = .ok (.getfield 32, 3) := by decide +kernel
theorem gd_41_148 : decode gm_c41 148 = .ok (.iload_n 1, 1) := by decide +kernel
theorem gd_41_149 : decode gm_c41 149 = .ok (.iaload, 1) := by decide +kernel
theorem gd_41_150 : decode gm_c41 150 = .ok (.istore 6, 2) := by decide +kernel
theorem gd_41_152 : decode gm_c41 152 = .ok (.iload 6, 2) := by decide +kernel
theorem gd_41_154 : decode gm_c41 154 = .ok (.ifCond .lt (38), 3) := by decide +kernel
theorem gd_41_157 : decode gm_c41 157 = .ok (.aload_n 0, 1) := by decide +kernel
theorem gd_41_158 : decode gm_c41 158 = .ok (.iload 6, 2) := by decide +kernel
theorem gd_41_160 : decode gm_c41 160 = .ok (.iload 5, 2) := by decide +kernel
theorem gd_41_162 : decode gm_c41 162 = .ok (.invokevirtual 209, 3) := by decide +kernel
theorem gd_41_165 : decode gm_c41 165 = .ok (.aload_n 0, 1) := by decide +kernel
theorem gd_41_166 : decode gm_c41 166 = .ok (.getfield 68, 3) := by decide +kernel
theorem gd_41_169 : decode gm_c41 169 = .ok (.bipush (13), 2) := by decide +kernel
theorem gd_41_171 : decode gm_c41 171 = .ok (.iload 6, 2) := by decide +kernel
theorem gd_41_173 : decode gm_c41 173 = .ok (.imul, 1) := by decide +kernel
theorem gd_41_174 : decode gm_c41 174 = .ok (.iload 5, 2) := by decide +kernel
theorem gd_41_176 : decode gm_c41 176 = .ok (.iadd, 1) := by decide +kernel
theorem gd_41_177 : decode gm_c41 177 = .ok (.iaload, 1) := by decide +kernel
theorem gd_41_178 : decode gm_c41 178 = .ok (.istore 5, 2) := by decide +kernel
theorem gd_41_180 : decode gm_c41 180 = .ok (.aload_n 0, 1) := by decide +kernel
theorem gd_41_181 : decode gm_c41 181 = .ok (.getfield 38, 3) := by decide +kernel
theorem gd_41_184 : decode gm_c41 184 = .ok (.iload 6, 2) := by decide +kernel
theorem gd_41_186 : decode gm_c41 186 = .ok (.iaload, 1) := by decide +kernel
theorem gd_41_187 : decode gm_c41 187 = .ok (.istore 6, 2) := by decide +kernel
theorem gd_41_189 : decode gm_c41 189 = .ok (.goto (-37), 3) := by decide +kernel
theorem gd_41_192 : decode gm_c41 192 = .ok (.aload_n 0, 1) := by decide +kernel
theorem gd_41_193 : decode gm_c41 193 = .ok (.iload 4, 2) := by decide +kernel
theorem gd_41_195 : decode gm_c41 195 = .ok (.invokevirtual 212, 3) := by decide +kernel
theorem gd_41_198 : decode gm_c41 198 = .ok (.goto (97), 3) := by decide +kernel
theorem gd_41_201 : decode gm_c41 201 = .ok (.iload_n 3, 1) := by decide +kernel
theorem gd_41_202 : decode gm_c41 202 = .ok (.iconst 4, 1) := by decide +kernel
theorem gd_41_203 : decode gm_c41 203 = .ok (.if_icmp .eq (14), 3) := by decide +kernel
theorem gd_41_206 : decode gm_c41 206 = .ok (.iload_n 3, 1) := by decide +kernel
theorem gd_41_207 : decode gm_c41 207 = .ok (.iconst 5, 1) := by decide +kernel
theorem gd_41_208 : decode gm_c41 208 = .ok (.if_icmp .eq (9), 3) := by decide +kernel
theorem gd_41_211 : decode gm_c41 211 = .ok (.iload_n 3, 1) := by decide +kernel
theorem gd_41_212 : decode gm_c41 212 = .ok (.bipush (6), 2) := by decide +kernel
theorem gd_41_214 : decode gm_c41 214 = .ok (.if_icmp .ne (81), 3) := by decide +kernel
theorem gd_41_217 : decode gm_c41 217 = .ok (.iload_n 2, 1) := by decide +kernel
theorem gd_41_218 : decode gm_c41 218 = .ok (.istore 5, 2) := by decide +kernel
theorem gd_41_220 : decode gm_c41 220 = .ok (.aload_n 0, 1) := by decide +kernel
theorem gd_41_221 : decode gm_c41 221 = .ok (.getfield 68, 3) := by decide +kernel
theorem gd_41_224 : decode gm_c41 224 = .ok (.bipush (13), 2) := by decide +kernel
theorem gd_41_226 : decode gm_c41 226 = .ok (.aload_n 0, 1) := by decide +kernel
theorem gd_41_227 : decode gm_c41 227 = .ok (.getfield 32, 3) := by decide +kernel
theorem gd_41_230 : decode gm_c41 230 = .ok (.iload_n 1, 1) := by decide +kernel
theorem gd_41_231 : decode gm_c41 231 = .ok (.iaload, 1) := by decide +kernel
theorem gd_41_232 : decode gm_c41 232 = .ok (.imul, 1) := by decide +kernel
theorem gd_41_233 : decode gm_c41 233 = .ok (.iload 5, 2) := by decide +kernel
theorem gd_41_235 : decode gm_c41 235 = .ok (.iadd, 1) := by decide +kernel
theorem gd_41_236 : decode gm_c41 236 = .ok (.iaload, 1) := by decide +kernel
theorem gd_41_237 : decode gm_c41 237 = .ok (.ifCond .lt (52), 3) := by decide +kernel
theorem gd_41_240 : decode gm_c41 240 = .ok (.iload_n 3, 1) := by decide +kernel
theorem gd_41_241 : decode gm_c41 241 = .ok (.bipush (6), 2) := by decide +kernel
theorem gd_41_243 : decode gm_c41 243 = .ok (.if_icmp .ne (12), 3) := by decide +kernel
theorem gd_41_246 : decode gm_c41 246 = .ok (.aload_n 0, 1) := by decide +kernel
theorem gd_41_247 : decode gm_c41 247 = .ok (.getfield 188, 3) := by decide +kernel
theorem gd_41_250 : decode gm_c41 250 = .ok (.iload 4, 2) := by decide +kernel
theorem gd_41_252 : decode gm_c41 252 = .ok (.if_icmp .ne (37), 3) := by decide +kernel
theorem gd_41_255 : decode gm_c41 255 = .ok (.aload_n 0, 1) := by decide +kernel
theorem gd_41_256 : decode gm_c41 256 = .ok (.aload_n 0, 1) := by decide +kernel
theorem gd_41_257 : decode gm_c41 257 = .ok (.getfield 32, 3) := by decide +kernel
theorem gd_41_260 : decode gm_c41 260 = .ok (.iload_n 1, 1) := by decide +kernel
theorem gd_41_261 : decode gm_c41 261 = .ok (.iaload, 1) := by decide +kernel
theorem gd_41_262 : decode gm_c41 262 = .ok (.iload 5, 2) := by decide +kernel
theorem gd_41_264 : decode gm_c41 264 = .ok (.invokevirtual 209, 3) := by decide +kernel
theorem gd_41_267 : decode gm_c41 267 = .ok (.aload_n 0, 1) := by decide +kernel
theorem gd_41_268 : decode gm_c41 268 = .ok (.getfield 68, 3) := by decide +kernel
theorem gd_41_271 : decode gm_c41 271 = .ok (.bipush (13), 2) := by decide +kernel
theorem gd_41_273 : decode gm_c41 273 = .ok (.aload_n 0, 1) := by decide +kernel
theorem gd_41_274 : decode gm_c41 274 = .ok (.getfield 32, 3) := by decide +kernel
theorem gd_41_277 : decode gm_c41 277 = .ok (.iload_n 1, 1) := by decide +kernel
theorem gd_41_278 : decode gm_c41 278 = .ok (.iaload, 1) := by decide +kernel
theorem gd_41_279 : decode gm_c41 279 = .ok (.imul, 1) := by decide +kernel
theorem gd_41_280 : decode gm_c41 280 = .ok (.iload 5, 2) := by decide +kernel
theorem gd_41_282 : decode gm_c41 282 = .ok (.iadd, 1) := by decide +kernel
theorem gd_41_283 : decode gm_c41 283 = .ok (.iaload, 1) := by decide +kernel
theorem gd_41_284 : decode gm_c41 284 = .ok (.istore 5, 2) := by decide +kernel
theorem gd_41_286 : decode gm_c41 286 = .ok (.goto (-66), 3) := by decide +kernel
theorem gd_41_289 : decode gm_c41 289 = .ok (.aload_n 0, 1) := by decide +kernel
theorem gd_41_290 : decode gm_c41 290 = .ok (.iload 4, 2) := by decide +kernel
theorem gd_41_292 : decode gm_c41 292 = .ok (.invokevirtual 212, 3) := by decide +kernel
theorem gd_41_295 : decode gm_c41 295 = .ok (.return_, 1) := by decide +kernel
theorem gd_42_0 : decode gm_c42 0 = .ok (.aload_n 0, 1) := by decide +kernel
theorem gd_42_1 : decode gm_c42 1 = .ok (.iload_n 1, 1) := by decide +kernel
theorem gd_42_2 : decode gm_c42 2 = .ok (.iload_n 2, 1) := by decide +kernel
theorem gd_42_3 : decode gm_c42 3 = .ok (.invokevirtual 215, 3) := by decide +kernel
theorem gd_42_6 : decode gm_c42 6 = .ok (.aload_n 0, 1) := by decide +kernel
theorem gd_42_7 : decode gm_c42 7 = .ok (.iconst 0, 1) := by decide +kernel
theorem gd_42_8 : decode gm_c42 8 = .ok (.putfield 203, 3) := by decide +kernel
theorem gd_42_11 : decode gm_c42 11 = .ok (.aload_n 0, 1) := by decide +kernel
theorem gd_42_12 : decode gm_c42 12 = .ok (.getfield 68, 3) := by decide +kernel
theorem gd_42_15 : decode gm_c42 15 = .ok (.sipush (520), 3) := by decide +kernel
theorem gd_42_18 : decode gm_c42 18 = .ok (.iload_n 1, 1) := by decide +kernel
theorem gd_42_19 : decode gm_c42 19 = .ok (.imul, 1) := by decide +kernel
theorem gd_42_20 : decode gm_c42 20 = .ok (.iload_n 2, 1) := by decide +kernel
theorem gd_42_21 : decode gm_c42 21 = .ok (.iadd, 1) := by decide +kernel
theorem gd_42_22 : decode gm_c42 22 = .ok (.iaload, 1) := by decide +kernel
theorem gd_42_23 : decode gm_c42 23 = .ok (.istore_n 3, 1) := by decide +kernel
theorem gd_42_24 : decode gm_c42 24 = .ok (.aload_n 0, 1) := by decide +kernel
theorem gd_42_25 : decode gm_c42 25 = .ok (.iconst 0, 1) := by decide +kernel
theorem gd_42_26 : decode gm_c42 26 = .ok (.putfield 188, 3) := by decide +kernel
theorem gd_42_29 : decode gm_c42 29 = .ok (.iload_n 3, 1) := by decide +kernel
theorem gd_42_30 : decode gm_c42 30 = .ok (.ifCond .lt (12), 3) := by decide +kernel
theorem gd_42_33 : decode gm_c42 33 = .ok (.aload_n 0, 1) := by decide +kernel
theorem gd_42_34 : decode gm_c42 34 = .ok (.bipush (40), 2) := by decide +kernel
theorem gd_42_36 : decode gm_c42 36 = .ok (.iload_n 1, 1) := by decide +kernel
theorem gd_42_37 : decode gm_c42 37 = .ok (.imul, 1) := by decide +kernel
theorem gd_42_38 : decode gm_c42 38 = .ok (.iload_n 2, 1) := by decide +kernel
theorem gd_42_39 : decode gm_c42 39 = .ok (.invokevirtual 209, 3) := by decide +kernel
theorem gd_42_42 : decode gm_c42 42 = .ok (.aload_n 0, 1) := by decide +kernel
theorem gd_42_43 : decode gm_c42 43 = .ok (.getfield 188, 3) := by decide +kernel
theorem gd_42_46 : decode gm_c42 46 = .ok (.ifCond .le (50), 3) := by decide +kernel
theorem gd_42_49 : decode gm_c42 49 = .ok (.aload_n 0, 1) := by decide +kernel
theorem gd_42_50 : decode gm_c42 50 = .ok (.getfield 203, 3) := by decide +kernel
theorem gd_42_53 : decode gm_c42 53 = .ok (.bipush (40), 2) := by decide +kernel
theorem gd_42_55 : decode gm_c42 55 = .ok (.if_icmp .ge (41), 3) := by decide +kernel
theorem gd_42_58 : decode gm_c42 58 = .ok (.aload_n 0, 1) := by decide +kernel
theorem gd_42_59 : decode gm_c42 59 = .ok (.dup, 1) := by decide +kernel
theorem gd_42_60 : decode gm_c42 60 = .ok (.getfield 188, 3) := by decide +kernel
theorem gd_42_63 : decode gm_c42 63 = .ok (.iconst 1, 1) := by decide +kernel
theorem gd_42_64 : decode gm_c42 64 = .ok (.isub, 1) := by decide +kernel
theorem gd_42_65 : decode gm_c42 65 = .ok (.putfield 188, 3) := by decide +kernel
theorem gd_42_68 : decode gm_c42 68 = .ok (.aload_n 0, 1) := by decide +kernel
theorem gd_42_69 : decode gm_c42 69 = .ok (.getfield 74, 3) := by decide +kernel
theorem gd_42_72 : decode gm_c42 72 = .ok (.aload_n 0, 1) := by decide +kernel
theorem gd_42_73 : decode gm_c42 73 = .ok (.getfield 188, 3) := by decide +kernel
theorem gd_42_76 : decode gm_c42 76 = .ok (.iaload, 1) := by decide +kernel
theorem gd_42_77 : decode gm_c42 77 = .ok (.istore 4, 2) := by decide +kernel
theorem gd_42_79 : decode gm_c42 79 = .ok (.aload_n 0, 1) := by decide +kernel
theorem gd_42_80 : decode gm_c42 80 = .ok (.iload 4, 2) := by decide +kernel
theorem gd_42_82 : decode gm_c42 82 = .ok (.bipush (13), 2) := by decide +kernel
theorem gd_42_84 : decode gm_c42 84 = .ok (.idiv, 1) := by decide +kernel
theorem gd_42_85 : decode gm_c42 85 = .ok (.iload 4, 2) := by decide +kernel
theorem gd_42_87 : decode gm_c42 87 = .ok (.bipush (13), 2) := by decide +kernel
theorem gd_42_89 : decode gm_c42 89 = .ok (.irem, 1) := by decide +kernel
theorem gd_42_90 : decode gm_c42 90 = .ok (.invokevirtual 218, 3) := by decide +kernel
theorem gd_42_93 : decode gm_c42 93 = .ok (.goto (-51), 3) := by decide +kernel
theorem gd_42_96 : decode gm_c42 96 = .ok (.iload_n 3, 1) := by decide +kernel
theorem gd_42_97 : decode gm_c42 97 = .ok (.ireturn, 1) := by decide +kernel
theorem gd_43_0 : decode gm_c43 0 = .ok (.aload_n 0, 1) := by decide +kernel
theorem gd_43_1 : decode gm_c43 1 = .ok (.iload_n 1, 1) := by decide +kernel
theorem gd_43_2 : decode gm_c43 2 = .ok (.invokestatic 155, 3) := by decide +kernel
theorem gd_43_5 : decode gm_c43 5 = .ok (.ifCond .eq (15), 3) := by decide +kernel
theorem gd_43_8 : decode gm_c43 8 = .ok (.iload_n 2, 1) := by decide +kernel
theorem gd_43_9 : decode gm_c43 9 = .ok (.ifCond .lt (11), 3) := by decide +kernel
theorem gd_43_12 : decode gm_c43 12 = .ok (.iload_n 2, 1) := by decide +kernel
theorem gd_43_13 : decode gm_c43 13 = .ok (.aload_n 0, 1) := by decide +kernel
theorem gd_43_14 : decode gm_c43 14 = .ok (.getfield 100, 3) := by decide +kernel
theorem gd_43_17 : decode gm_c43 17 = .ok (.if_icmp .le (7), 3) := by decide +kernel
theorem gd_43_20 : decode gm_c43 20 = .ok (.iconst 1, 1) := by decide +kernel
theorem gd_43_21 : decode gm_c43 21 = .ok (.goto (16), 3) := by decide +kernel
theorem gd_43_24 : decode gm_c43 24 = .ok (.aload_n 0, 1) := by decide +kernel
theorem gd_43_25 : decode gm_c43 25 = .ok (.iload_n 1, 1) := by decide +kernel
theorem gd_43_26 : decode gm_c43 26 = .ok (.invokevirtual 173, 3) := by decide +kernel
theorem gd_43_29 : decode gm_c43 29 = .ok (.ifCond .eq (7), 3) := by decide +kernel
theorem gd_43_32 : decode gm_c43 32 = .ok (.iconst 2, 1) := by decide +kernel
theorem gd_43_33 : decode gm_c43 33 = .ok (.goto (4), 3) := by decide +kernel
theorem gd_43_36 : decode gm_c43 36 = .ok (.iconst 0, 1) := by decide +kernel
theorem gd_43_37 : decode gm_c43 37 = .ok (.putfield 90, 3) := by decide +kernel
theorem gd_43_40 : decode gm_c43 40 = .ok (.aload_n 0, 1) := by decide +kernel
theorem gd_43_41 : decode gm_c43 41 = .ok (.getfield 90, 3) := by decide +kernel
theorem gd_43_44 : decode gm_c43 44 = .ok (.ifCond .le (5), 3) := by decide +kernel
theorem gd_43_47 : decode gm_c43 47 = .ok (.iconst 0, 1) := by decide +kernel
theorem gd_43_48 : decode gm_c43 48 = .ok (.ireturn, 1) := by decide +kernel
theorem gd_43_49 : decode gm_c43 49 = .ok (.aload_n 0, 1) := by decide +kernel
theorem gd_43_50 : decode gm_c43 50 = .ok (.invokevirtual 221, 3) := by decide +kernel
theorem gd_43_53 : decode gm_c43 53 = .ok (.aload_n 0, 1) := by decide +kernel
theorem gd_43_54 : decode gm_c43 54 = .ok (.iload_n 1, 1) := by decide +kernel
theorem gd_43_55 : decode gm_c43 55 = .ok (.iload_n 2, 1) := by decide +kernel
theorem gd_43_56 : decode gm_c43 56 = .ok (.invokevirtual 224, 3) := by decide +kernel
theorem gd_43_59 : decode gm_c43 59 = .ok (.ireturn, 1) := by decide +kernel
theorem gd_44_0 : decode gm_c44 0 = .ok (.aload_n 0, 1) := by decide +kernel
theorem gd_44_1 : decode gm_c44 1 = .ok (.iload_n 1, 1) := by decide +kernel
theorem gd_44_2 : decode gm_c44 2 = .ok (.invokestatic 155, 3) := by decide +kernel
theorem gd_44_5 : decode gm_c44 5 = .ok (.ifCond .ne (7), 3) := by decide +kernel
theorem gd_44_8 : decode gm_c44 8 = .ok (.iconst 1, 1) := by decide +kernel
theorem gd_44_9 : decode gm_c44 9 = .ok (.goto (16), 3) := by decide +kernel
theorem gd_44_12 : decode gm_c44 12 = .ok (.aload_n 0, 1) := by decide +kernel
theorem gd_44_13 : decode gm_c44 13 = .ok (.iload_n 1, 1) := by decide +kernel
theorem gd_44_14 : decode gm_c44 14 = .ok (.invokevirtual 173, 3) := by decide +kernel
theorem gd_44_17 : decode gm_c44 17 = .ok (.ifCond .eq (7), 3) := by decide +kernel
theorem gd_44_20 : decode gm_c44 20 = .ok (.iconst 2, 1) := by decide +kernel
theorem gd_44_21 : decode gm_c44 21 = .ok (.goto (4), 3) := by decide +kernel
theorem gd_44_24 : decode gm_c44 24 = .ok (.iconst 0, 1) := by decide +kernel
theorem gd_44_25 : decode gm_c44 25 = .ok (.putfield 90, 3) := by decide +kernel
theorem gd_44_28 : decode gm_c44 28 = .ok (.aload_n 0, 1) := by decide +kernel
theorem gd_44_29 : decode gm_c44 29 = .ok (.getfield 90, 3) := by decide +kernel
theorem gd_44_32 : decode gm_c44 32 = .ok (.ifCond .le (5), 3) := by decide +kernel
theorem gd_44_35 : decode gm_c44 35 = .ok (.iconst 0, 1) := by decide +kernel
theorem gd_44_36 : decode gm_c44 36 = .ok (.ireturn, 1) := by decide +kernel
theorem gd_44_37 : decode gm_c44 37 = .ok (.aload_n 0, 1) := by decide +kernel
theorem gd_44_38 : decode gm_c44 38 = .ok (.invokevirtual 221, 3) := by decide +kernel
theorem gd_44_41 : decode gm_c44 41 = .ok (.iconst 0, 1) := by decide +kernel
theorem gd_44_42 : decode gm_c44 42 = .ok (.istore_n 2, 1) := by decide +kernel
theorem gd_44_43 : decode gm_c44 43 = .ok (.iload_n 2, 1) := by decide +kernel
theorem gd_44_44 : decode gm_c44 44 = .ok (.aload_n 0, 1) := by decide +kernel
theorem gd_44_45 : decode gm_c44 45 = .ok (.getfield 100, 3) := by decide +kernel
theorem gd_44_48 : decode gm_c44 48 = .ok (.if_icmp .gt (18), 3) := by decide +kernel
theorem gd_44_51 : decode gm_c44 51 = .ok (.aload_n 0, 1) := by decide +kernel
theorem gd_44_52 : decode gm_c44 52 = .ok (.iload_n 1, 1) := by decide +kernel
theorem gd_44_53 : decode gm_c44 53 = .ok (.iload_n 2, 1) := by decide +kernel
theorem gd_44_54 : decode gm_c44 54 = .ok (.invokevirtual 224, 3) := by decide +kernel
theorem gd_44_57 : decode gm_c44 57 = .ok (.ifCond .ge (9), 3) := by decide +kernel
theorem gd_44_60 : decode gm_c44 60 = .ok (.iinc 2 (1), 3) := by decide +kernel
theorem gd_44_63 : decode gm_c44 63 = .ok (.goto (-20), 3) := by decide +kernel
theorem gd_44_66 : decode gm_c44 66 = .ok (.iload_n 2, 1) := by decide +kernel
theorem gd_44_67 : decode gm_c44 67 = .ok (.aload_n 0, 1) := by decide +kernel
theorem gd_44_68 : decode gm_c44 68 = .ok (.getfield 100, 3) := by decide +kernel
theorem gd_44_71 : decode gm_c44 71 = .ok (.if_icmp .le (7), 3) := by decide +kernel
theorem gd_44_74 : decode gm_c44 74 = .ok (.iconst (-1), 1) := by decide +kernel
theorem gd_44_75 : decode gm_c44 75 = .ok (.goto (4), 3) := by decide +kernel
theorem gd_44_78 : decode gm_c44 78 = .ok (.iload_n 2, 1) := by decide +kernel
theorem gd_44_79 : decode gm_c44 79 = .ok (.ireturn, 1) := by decide +kernel
theorem gd_45_0 : decode gm_c45 0 = .ok (.aload_n 0, 1) := by decide +kernel
theorem gd_45_1 : decode gm_c45 1 = .ok (.iconst 0, 1) := by decide +kernel
theorem gd_45_2 : decode gm_c45 2 = .ok (.putfield 90, 3) := by decide +kernel
theorem gd_45_5 : decode gm_c45 5 = .ok (.aload_n 0, 1) := by decide +kernel
theorem gd_45_6 : decode gm_c45 6 = .ok (.getfield 203, 3) := by decide +kernel
theorem gd_45_9 : decode gm_c45 9 = .ok (.ireturn, 1) := by decide +kernel
theorem gd_46_0 : decode gm_c46 0 = .ok (.aload_n 0, 1) := by decide +kernel
theorem gd_46_1 : decode gm_c46 1 = .ok (.iload_n 1, 1) := by decide +kernel
theorem gd_46_2 : decode gm_c46 2 = .ok (.ifCond .lt (20), 3) := by decide +kernel
theorem gd_46_5 : decode gm_c46 5 = .ok (.iload_n 1, 1) := by decide +kernel
theorem gd_46_6 : decode gm_c46 6 = .ok (.aload_n 0, 1) := by decide +kernel
theorem gd_46_7 : decode gm_c46 7 = .ok (.getfield 203, 3) := by decide +kernel
theorem gd_46_10 : decode gm_c46 10 = .ok (.if_icmp .ge (12), 3) := by decide +kernel
theorem gd_46_13 : decode gm_c46 13 = .ok (.iload_n 2, 1) := by decide +kernel
theorem gd_46_14 : decode gm_c46 14 = .ok (.ifCond .lt (8), 3) := by decide +kernel
theorem gd_46_17 : decode gm_c46 17 = .ok (.iload_n 2, 1) := by decide +kernel
theorem gd_46_18 : decode gm_c46 18 = .ok (.iconst 1, 1) := by decide +kernel
theorem gd_46_19 : decode gm_c46 19 = .ok (.if_icmp .le (7), 3) := by decide +kernel
theorem gd_46_22 : decode gm_c46 22 = .ok (.iconst 1, 1) := by decide +kernel
theorem gd_46_23 : decode gm_c46 23 = .ok (.goto (4), 3) := by decide +kernel
theorem gd_46_26 : decode gm_c46 26 = .ok (.iconst 0, 1) := by decide +kernel
theorem gd_46_27 : decode gm_c46 27 = .ok (.putfield 90, 3) := by decide +kernel
theorem gd_46_30 : decode gm_c46 30 = .ok (.aload_n 0, 1) := by decide +kernel
theorem gd_46_31 : decode gm_c46 31 = .ok (.getfield 90, 3) := by decide +kernel
theorem gd_46_34 : decode gm_c46 34 = .ok (.ifCond .le (5), 3) := by decide +kernel
theorem gd_46_37 : decode gm_c46 37 = .ok (.iconst 0, 1) := by decide +kernel
theorem gd_46_38 : decode gm_c46 38 = .ok (.ireturn, 1) := by decide +kernel
theorem gd_46_39 : decode gm_c46 39 = .ok (.iload_n 2, 1) := by decide +kernel
theorem gd_46_40 : decode gm_c46 40 = .ok (.ifCond .ne (12), 3) := by decide +kernel
theorem gd_46_43 : decode gm_c46 43 = .ok (.aload_n 0, 1) := by decide +kernel
theorem gd_46_44 : decode gm_c46 44 = .ok (.getfield 80, 3) := by decide +kernel
theorem gd_46_47 : decode gm_c46 47 = .ok (.iload_n 1, 1) := by decide +kernel
theorem gd_46_48 : decode gm_c46 48 = .ok (.iaload, 1) := by decide +kernel
theorem gd_46_49 : decode gm_c46 49 = .ok (.goto (9), 3) := by decide +kernel
theorem gd_46_52 : decode gm_c46 52 = .ok (.aload_n 0, 1) := by decide +kernel
theorem gd_46_53 : decode gm_c46 53 = .ok (.getfield 83, 3) := by decide +kernel
theorem gd_46_56 : decode gm_c46 56 = .ok (.iload_n 1, 1) := by decide +kernel
theorem gd_46_57 : decode gm_c46 57 = .ok (.iaload, 1) := by decide +kernel
theorem gd_46_58 : decode gm_c46 58 = .ok (.ireturn, 1) := by decide +kernel
theorem gd_47_0 : decode gm_c47 0 = .ok (.aload_n 0, 1) := by decide +kernel
theorem gd_47_1 : decode gm_c47 1 = .ok (.iconst 0, 1) := by decide +kernel
theorem gd_47_2 : decode gm_c47 2 = .ok (.putfield 90, 3) := by decide +kernel
theorem gd_47_5 : decode gm_c47 5 = .ok (.aload_n 0, 1) := by decide +kernel
theorem gd_47_6 : decode gm_c47 6 = .ok (.getfield 86, 3) := by decide +kernel
theorem gd_47_9 : decode gm_c47 9 = .ok (.ireturn, 1) := by decide +kernel
theorem gd_48_0 : decode gm_c48 0 = .ok (.aload_n 0, 1) := by decide +kernel
theorem gd_48_1 : decode gm_c48 1 = .ok (.iconst 0, 1) := by decide +kernel
theorem gd_48_2 : decode gm_c48 2 = .ok (.putfield 90, 3) := by decide +kernel
theorem gd_48_5 : decode gm_c48 5 = .ok (.aload_n 0, 1) := by decide +kernel
theorem gd_48_6 : decode gm_c48 6 = .ok (.getfield 191, 3) := by decide +kernel
theorem gd_48_9 : decode gm_c48 9 = .ok (.ireturn, 1) := by decide +kernel
