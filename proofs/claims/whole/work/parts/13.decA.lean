/-! The decode rows of the model. -/
theorem gd_0_0 : decode gm_c0 0 = .ok (.aload_n 0, 1) := by decide +kernel
theorem gd_0_1 : decode gm_c0 1 = .ok (.invokespecial 1, 3) := by decide +kernel
theorem gd_0_4 : decode gm_c0 4 = .ok (.aload_n 0, 1) := by decide +kernel
theorem gd_0_5 : decode gm_c0 5 = .ok (.bipush (20), 2) := by decide +kernel
theorem gd_0_7 : decode gm_c0 7 = .ok (.newarray .int, 2) := by decide +kernel
theorem gd_0_9 : decode gm_c0 9 = .ok (.putfield 7, 3) := by decide +kernel
theorem gd_0_12 : decode gm_c0 12 = .ok (.aload_n 0, 1) := by decide +kernel
theorem gd_0_13 : decode gm_c0 13 = .ok (.bipush (12), 2) := by decide +kernel
theorem gd_0_15 : decode gm_c0 15 = .ok (.newarray .int, 2) := by decide +kernel
theorem gd_0_17 : decode gm_c0 17 = .ok (.putfield 13, 3) := by decide +kernel
theorem gd_0_20 : decode gm_c0 20 = .ok (.aload_n 0, 1) := by decide +kernel
theorem gd_0_21 : decode gm_c0 21 = .ok (.iconst 4, 1) := by decide +kernel
theorem gd_0_22 : decode gm_c0 22 = .ok (.newarray .boolean, 2) := by decide +kernel
theorem gd_0_24 : decode gm_c0 24 = .ok (.putfield 16, 3) := by decide +kernel
theorem gd_0_27 : decode gm_c0 27 = .ok (.aload_n 0, 1) := by decide +kernel
theorem gd_0_28 : decode gm_c0 28 = .ok (.bipush (80), 2) := by decide +kernel
theorem gd_0_30 : decode gm_c0 30 = .ok (.newarray .int, 2) := by decide +kernel
theorem gd_0_32 : decode gm_c0 32 = .ok (.putfield 20, 3) := by decide +kernel
theorem gd_0_35 : decode gm_c0 35 = .ok (.aload_n 0, 1) := by decide +kernel
theorem gd_0_36 : decode gm_c0 36 = .ok (.iconst 4, 1) := by decide +kernel
theorem gd_0_37 : decode gm_c0 37 = .ok (.newarray .int, 2) := by decide +kernel
theorem gd_0_39 : decode gm_c0 39 = .ok (.putfield 23, 3) := by decide +kernel
theorem gd_0_42 : decode gm_c0 42 = .ok (.aload_n 0, 1) := by decide +kernel
theorem gd_0_43 : decode gm_c0 43 = .ok (.iconst 5, 1) := by decide +kernel
theorem gd_0_44 : decode gm_c0 44 = .ok (.newarray .int, 2) := by decide +kernel
theorem gd_0_46 : decode gm_c0 46 = .ok (.putfield 26, 3) := by decide +kernel
theorem gd_0_49 : decode gm_c0 49 = .ok (.aload_n 0, 1) := by decide +kernel
theorem gd_0_50 : decode gm_c0 50 = .ok (.sipush (200), 3) := by decide +kernel
theorem gd_0_53 : decode gm_c0 53 = .ok (.newarray .int, 2) := by decide +kernel
theorem gd_0_55 : decode gm_c0 55 = .ok (.putfield 29, 3) := by decide +kernel
theorem gd_0_58 : decode gm_c0 58 = .ok (.aload_n 0, 1) := by decide +kernel
theorem gd_0_59 : decode gm_c0 59 = .ok (.sipush (200), 3) := by decide +kernel
theorem gd_0_62 : decode gm_c0 62 = .ok (.newarray .int, 2) := by decide +kernel
theorem gd_0_64 : decode gm_c0 64 = .ok (.putfield 32, 3) := by decide +kernel
theorem gd_0_67 : decode gm_c0 67 = .ok (.aload_n 0, 1) := by decide +kernel
theorem gd_0_68 : decode gm_c0 68 = .ok (.sipush (200), 3) := by decide +kernel
theorem gd_0_71 : decode gm_c0 71 = .ok (.newarray .int, 2) := by decide +kernel
theorem gd_0_73 : decode gm_c0 73 = .ok (.putfield 35, 3) := by decide +kernel
theorem gd_0_76 : decode gm_c0 76 = .ok (.aload_n 0, 1) := by decide +kernel
theorem gd_0_77 : decode gm_c0 77 = .ok (.sipush (200), 3) := by decide +kernel
theorem gd_0_80 : decode gm_c0 80 = .ok (.newarray .int, 2) := by decide +kernel
theorem gd_0_82 : decode gm_c0 82 = .ok (.putfield 38, 3) := by decide +kernel
theorem gd_0_85 : decode gm_c0 85 = .ok (.aload_n 0, 1) := by decide +kernel
theorem gd_0_86 : decode gm_c0 86 = .ok (.sipush (200), 3) := by decide +kernel
theorem gd_0_89 : decode gm_c0 89 = .ok (.newarray .int, 2) := by decide +kernel
theorem gd_0_91 : decode gm_c0 91 = .ok (.putfield 41, 3) := by decide +kernel
theorem gd_0_94 : decode gm_c0 94 = .ok (.aload_n 0, 1) := by decide +kernel
theorem gd_0_95 : decode gm_c0 95 = .ok (.sipush (200), 3) := by decide +kernel
theorem gd_0_98 : decode gm_c0 98 = .ok (.newarray .boolean, 2) := by decide +kernel
theorem gd_0_100 : decode gm_c0 100 = .ok (.putfield 44, 3) := by decide +kernel
theorem gd_0_103 : decode gm_c0 103 = .ok (.aload_n 0, 1) := by decide +kernel
theorem gd_0_104 : decode gm_c0 104 = .ok (.sipush (200), 3) := by decide +kernel
theorem gd_0_107 : decode gm_c0 107 = .ok (.newarray .int, 2) := by decide +kernel
theorem gd_0_109 : decode gm_c0 109 = .ok (.putfield 47, 3) := by decide +kernel
theorem gd_0_112 : decode gm_c0 112 = .ok (.aload_n 0, 1) := by decide +kernel
theorem gd_0_113 : decode gm_c0 113 = .ok (.iconst 4, 1) := by decide +kernel
theorem gd_0_114 : decode gm_c0 114 = .ok (.newarray .int, 2) := by decide +kernel
theorem gd_0_116 : decode gm_c0 116 = .ok (.putfield 50, 3) := by decide +kernel
theorem gd_0_119 : decode gm_c0 119 = .ok (.aload_n 0, 1) := by decide +kernel
theorem gd_0_120 : decode gm_c0 120 = .ok (.bipush (8), 2) := by decide +kernel
theorem gd_0_122 : decode gm_c0 122 = .ok (.newarray .int, 2) := by decide +kernel
theorem gd_0_124 : decode gm_c0 124 = .ok (.putfield 53, 3) := by decide +kernel
theorem gd_0_127 : decode gm_c0 127 = .ok (.aload_n 0, 1) := by decide +kernel
theorem gd_0_128 : decode gm_c0 128 = .ok (.bipush (8), 2) := by decide +kernel
theorem gd_0_130 : decode gm_c0 130 = .ok (.newarray .int, 2) := by decide +kernel
theorem gd_0_132 : decode gm_c0 132 = .ok (.putfield 56, 3) := by decide +kernel
theorem gd_0_135 : decode gm_c0 135 = .ok (.aload_n 0, 1) := by decide +kernel
theorem gd_0_136 : decode gm_c0 136 = .ok (.bipush (8), 2) := by decide +kernel
theorem gd_0_138 : decode gm_c0 138 = .ok (.newarray .int, 2) := by decide +kernel
theorem gd_0_140 : decode gm_c0 140 = .ok (.putfield 59, 3) := by decide +kernel
theorem gd_0_143 : decode gm_c0 143 = .ok (.aload_n 0, 1) := by decide +kernel
theorem gd_0_144 : decode gm_c0 144 = .ok (.bipush (8), 2) := by decide +kernel
theorem gd_0_146 : decode gm_c0 146 = .ok (.newarray .int, 2) := by decide +kernel
theorem gd_0_148 : decode gm_c0 148 = .ok (.putfield 62, 3) := by decide +kernel
theorem gd_0_151 : decode gm_c0 151 = .ok (.aload_n 0, 1) := by decide +kernel
theorem gd_0_152 : decode gm_c0 152 = .ok (.bipush (8), 2) := by decide +kernel
theorem gd_0_154 : decode gm_c0 154 = .ok (.newarray .int, 2) := by decide +kernel
theorem gd_0_156 : decode gm_c0 156 = .ok (.putfield 65, 3) := by decide +kernel
theorem gd_0_159 : decode gm_c0 159 = .ok (.aload_n 0, 1) := by decide +kernel
theorem gd_0_160 : decode gm_c0 160 = .ok (.sipush (2600), 3) := by decide +kernel
theorem gd_0_163 : decode gm_c0 163 = .ok (.newarray .int, 2) := by decide +kernel
theorem gd_0_165 : decode gm_c0 165 = .ok (.putfield 68, 3) := by decide +kernel
theorem gd_0_168 : decode gm_c0 168 = .ok (.aload_n 0, 1) := by decide +kernel
theorem gd_0_169 : decode gm_c0 169 = .ok (.sipush (2600), 3) := by decide +kernel
theorem gd_0_172 : decode gm_c0 172 = .ok (.newarray .boolean, 2) := by decide +kernel
theorem gd_0_174 : decode gm_c0 174 = .ok (.putfield 71, 3) := by decide +kernel
theorem gd_0_177 : decode gm_c0 177 = .ok (.aload_n 0, 1) := by decide +kernel
theorem gd_0_178 : decode gm_c0 178 = .ok (.sipush (2600), 3) := by decide +kernel
theorem gd_0_181 : decode gm_c0 181 = .ok (.newarray .int, 2) := by decide +kernel
theorem gd_0_183 : decode gm_c0 183 = .ok (.putfield 74, 3) := by decide +kernel
theorem gd_0_186 : decode gm_c0 186 = .ok (.aload_n 0, 1) := by decide +kernel
theorem gd_0_187 : decode gm_c0 187 = .ok (.bipush (52), 2) := by decide +kernel
theorem gd_0_189 : decode gm_c0 189 = .ok (.newarray .boolean, 2) := by decide +kernel
theorem gd_0_191 : decode gm_c0 191 = .ok (.putfield 77, 3) := by decide +kernel
theorem gd_0_194 : decode gm_c0 194 = .ok (.aload_n 0, 1) := by decide +kernel
theorem gd_0_195 : decode gm_c0 195 = .ok (.bipush (40), 2) := by decide +kernel
theorem gd_0_197 : decode gm_c0 197 = .ok (.newarray .int, 2) := by decide +kernel
theorem gd_0_199 : decode gm_c0 199 = .ok (.putfield 80, 3) := by decide +kernel
theorem gd_0_202 : decode gm_c0 202 = .ok (.aload_n 0, 1) := by decide +kernel
theorem gd_0_203 : decode gm_c0 203 = .ok (.bipush (40), 2) := by decide +kernel
theorem gd_0_205 : decode gm_c0 205 = .ok (.newarray .int, 2) := by decide +kernel
theorem gd_0_207 : decode gm_c0 207 = .ok (.putfield 83, 3) := by decide +kernel
theorem gd_0_210 : decode gm_c0 210 = .ok (.aload_n 0, 1) := by decide +kernel
theorem gd_0_211 : decode gm_c0 211 = .ok (.iconst (-1), 1) := by decide +kernel
theorem gd_0_212 : decode gm_c0 212 = .ok (.putfield 86, 3) := by decide +kernel
theorem gd_0_215 : decode gm_c0 215 = .ok (.return_, 1) := by decide +kernel
theorem gd_1_0 : decode gm_c1 0 = .ok (.aload_n 0, 1) := by decide +kernel
theorem gd_1_1 : decode gm_c1 1 = .ok (.getfield 90, 3) := by decide +kernel
theorem gd_1_4 : decode gm_c1 4 = .ok (.ireturn, 1) := by decide +kernel
theorem gd_2_0 : decode gm_c2 0 = .ok (.iload_n 0, 1) := by decide +kernel
theorem gd_2_1 : decode gm_c2 1 = .ok (.ifCond .lt (12), 3) := by decide +kernel
theorem gd_2_4 : decode gm_c2 4 = .ok (.iload_n 0, 1) := by decide +kernel
theorem gd_2_5 : decode gm_c2 5 = .ok (.iconst 4, 1) := by decide +kernel
theorem gd_2_6 : decode gm_c2 6 = .ok (.if_icmp .ge (7), 3) := by decide +kernel
theorem gd_2_9 : decode gm_c2 9 = .ok (.iconst 1, 1) := by decide +kernel
theorem gd_2_10 : decode gm_c2 10 = .ok (.goto (4), 3) := by decide +kernel
theorem gd_2_13 : decode gm_c2 13 = .ok (.iconst 0, 1) := by decide +kernel
theorem gd_2_14 : decode gm_c2 14 = .ok (.ireturn, 1) := by decide +kernel
theorem gd_3_0 : decode gm_c3 0 = .ok (.iconst 0, 1) := by decide +kernel
theorem gd_3_1 : decode gm_c3 1 = .ok (.istore_n 1, 1) := by decide +kernel
theorem gd_3_2 : decode gm_c3 2 = .ok (.iload_n 1, 1) := by decide +kernel
theorem gd_3_3 : decode gm_c3 3 = .ok (.iconst 4, 1) := by decide +kernel
theorem gd_3_4 : decode gm_c3 4 = .ok (.if_icmp .ge (47), 3) := by decide +kernel
theorem gd_3_7 : decode gm_c3 7 = .ok (.iload_n 0, 1) := by decide +kernel
theorem gd_3_8 : decode gm_c3 8 = .ok (.bipush (8), 2) := by decide +kernel
theorem gd_3_10 : decode gm_c3 10 = .ok (.iload_n 1, 1) := by decide +kernel
theorem gd_3_11 : decode gm_c3 11 = .ok (.imul, 1) := by decide +kernel
theorem gd_3_12 : decode gm_c3 12 = .ok (.ishr, 1) := by decide +kernel
theorem gd_3_13 : decode gm_c3 13 = .ok (.sipush (255), 3) := by decide +kernel
theorem gd_3_16 : decode gm_c3 16 = .ok (.iand, 1) := by decide +kernel
theorem gd_3_17 : decode gm_c3 17 = .ok (.ifCond .eq (34), 3) := by decide +kernel
theorem gd_3_20 : decode gm_c3 20 = .ok (.iload_n 0, 1) := by decide +kernel
theorem gd_3_21 : decode gm_c3 21 = .ok (.bipush (8), 2) := by decide +kernel
theorem gd_3_23 : decode gm_c3 23 = .ok (.iload_n 1, 1) := by decide +kernel
theorem gd_3_24 : decode gm_c3 24 = .ok (.imul, 1) := by decide +kernel
theorem gd_3_25 : decode gm_c3 25 = .ok (.ishr, 1) := by decide +kernel
theorem gd_3_26 : decode gm_c3 26 = .ok (.sipush (255), 3) := by decide +kernel
theorem gd_3_29 : decode gm_c3 29 = .ok (.iand, 1) := by decide +kernel
theorem gd_3_30 : decode gm_c3 30 = .ok (.istore_n 2, 1) := by decide +kernel
theorem gd_3_31 : decode gm_c3 31 = .ok (.iload_n 2, 1) := by decide +kernel
theorem gd_3_32 : decode gm_c3 32 = .ok (.bipush (32), 2) := by decide +kernel
theorem gd_3_34 : decode gm_c3 34 = .ok (.if_icmp .lt (9), 3) := by decide +kernel
theorem gd_3_37 : decode gm_c3 37 = .ok (.iload_n 2, 1) := by decide +kernel
theorem gd_3_38 : decode gm_c3 38 = .ok (.bipush (126), 2) := by decide +kernel
theorem gd_3_40 : decode gm_c3 40 = .ok (.if_icmp .le (5), 3) := by decide +kernel
theorem gd_3_43 : decode gm_c3 43 = .ok (.iconst (-1), 1) := by decide +kernel
theorem gd_3_44 : decode gm_c3 44 = .ok (.ireturn, 1) := by decide +kernel
theorem gd_3_45 : decode gm_c3 45 = .ok (.iinc 1 (1), 3) := by decide +kernel
theorem gd_3_48 : decode gm_c3 48 = .ok (.goto (-46), 3) := by decide +kernel
theorem gd_3_51 : decode gm_c3 51 = .ok (.iload_n 1, 1) := by decide +kernel
theorem gd_3_52 : decode gm_c3 52 = .ok (.ireturn, 1) := by decide +kernel
theorem gd_4_0 : decode gm_c4 0 = .ok (.iload_n 1, 1) := by decide +kernel
theorem gd_4_1 : decode gm_c4 1 = .ok (.invokestatic 93, 3) := by decide +kernel
theorem gd_4_4 : decode gm_c4 4 = .ok (.istore_n 2, 1) := by decide +kernel
theorem gd_4_5 : decode gm_c4 5 = .ok (.aload_n 0, 1) := by decide +kernel
theorem gd_4_6 : decode gm_c4 6 = .ok (.iload_n 2, 1) := by decide +kernel
theorem gd_4_7 : decode gm_c4 7 = .ok (.ifCond .ge (7), 3) := by decide +kernel
theorem gd_4_10 : decode gm_c4 10 = .ok (.iconst 1, 1) := by decide +kernel
theorem gd_4_11 : decode gm_c4 11 = .ok (.goto (4), 3) := by decide +kernel
theorem gd_4_14 : decode gm_c4 14 = .ok (.iconst 0, 1) := by decide +kernel
theorem gd_4_15 : decode gm_c4 15 = .ok (.putfield 90, 3) := by decide +kernel
theorem gd_4_18 : decode gm_c4 18 = .ok (.iload_n 2, 1) := by decide +kernel
theorem gd_4_19 : decode gm_c4 19 = .ok (.ifCond .lt (14), 3) := by decide +kernel
theorem gd_4_22 : decode gm_c4 22 = .ok (.aload_n 0, 1) := by decide +kernel
theorem gd_4_23 : decode gm_c4 23 = .ok (.getfield 97, 3) := by decide +kernel
theorem gd_4_26 : decode gm_c4 26 = .ok (.iload_n 2, 1) := by decide +kernel
theorem gd_4_27 : decode gm_c4 27 = .ok (.iadd, 1) := by decide +kernel
theorem gd_4_28 : decode gm_c4 28 = .ok (.bipush (20), 2) := by decide +kernel
theorem gd_4_30 : decode gm_c4 30 = .ok (.if_icmp .le (5), 3) := by decide +kernel
theorem gd_4_33 : decode gm_c4 33 = .ok (.iconst 0, 1) := by decide +kernel
theorem gd_4_34 : decode gm_c4 34 = .ok (.ireturn, 1) := by decide +kernel
theorem gd_4_35 : decode gm_c4 35 = .ok (.iconst 0, 1) := by decide +kernel
theorem gd_4_36 : decode gm_c4 36 = .ok (.istore_n 3, 1) := by decide +kernel
theorem gd_4_37 : decode gm_c4 37 = .ok (.iload_n 3, 1) := by decide +kernel
theorem gd_4_38 : decode gm_c4 38 = .ok (.iload_n 2, 1) := by decide +kernel
theorem gd_4_39 : decode gm_c4 39 = .ok (.if_icmp .ge (38), 3) := by decide +kernel
theorem gd_4_42 : decode gm_c4 42 = .ok (.aload_n 0, 1) := by decide +kernel
theorem gd_4_43 : decode gm_c4 43 = .ok (.getfield 7, 3) := by decide +kernel
theorem gd_4_46 : decode gm_c4 46 = .ok (.aload_n 0, 1) := by decide +kernel
theorem gd_4_47 : decode gm_c4 47 = .ok (.getfield 97, 3) := by decide +kernel
theorem gd_4_50 : decode gm_c4 50 = .ok (.iload_n 1, 1) := by decide +kernel
theorem gd_4_51 : decode gm_c4 51 = .ok (.bipush (8), 2) := by decide +kernel
theorem gd_4_53 : decode gm_c4 53 = .ok (.iload_n 3, 1) := by decide +kernel
theorem gd_4_54 : decode gm_c4 54 = .ok (.imul, 1) := by decide +kernel
theorem gd_4_55 : decode gm_c4 55 = .ok (.ishr, 1) := by decide +kernel
theorem gd_4_56 : decode gm_c4 56 = .ok (.sipush (255), 3) := by decide +kernel
theorem gd_4_59 : decode gm_c4 59 = .ok (.iand, 1) := by decide +kernel
theorem gd_4_60 : decode gm_c4 60 = .ok (.iastore, 1) := by decide +kernel
theorem gd_4_61 : decode gm_c4 61 = .ok (.aload_n 0, 1) := by decide +kernel
theorem gd_4_62 : decode gm_c4 62 = .ok (.dup, 1) := by decide +kernel
theorem gd_4_63 : decode gm_c4 63 = .ok (.getfield 97, 3) := by decide +kernel
theorem gd_4_66 : decode gm_c4 66 = .ok (.iconst 1, 1) := by decide +kernel
theorem gd_4_67 : decode gm_c4 67 = .ok (.iadd, 1) := by decide +kernel
theorem gd_4_68 : decode gm_c4 68 = .ok (.putfield 97, 3) := by decide +kernel
theorem gd_4_71 : decode gm_c4 71 = .ok (.iinc 3 (1), 3) := by decide +kernel
theorem gd_4_74 : decode gm_c4 74 = .ok (.goto (-37), 3) := by decide +kernel
theorem gd_4_77 : decode gm_c4 77 = .ok (.iconst 1, 1) := by decide +kernel
theorem gd_4_78 : decode gm_c4 78 = .ok (.ireturn, 1) := by decide +kernel
theorem gd_5_0 : decode gm_c5 0 = .ok (.iload_n 1, 1) := by decide +kernel
theorem gd_5_1 : decode gm_c5 1 = .ok (.invokestatic 93, 3) := by decide +kernel
theorem gd_5_4 : decode gm_c5 4 = .ok (.istore_n 2, 1) := by decide +kernel
theorem gd_5_5 : decode gm_c5 5 = .ok (.aload_n 0, 1) := by decide +kernel
theorem gd_5_6 : decode gm_c5 6 = .ok (.iload_n 2, 1) := by decide +kernel
theorem gd_5_7 : decode gm_c5 7 = .ok (.ifCond .ge (7), 3) := by decide +kernel
theorem gd_5_10 : decode gm_c5 10 = .ok (.iconst 1, 1) := by decide +kernel
theorem gd_5_11 : decode gm_c5 11 = .ok (.goto (4), 3) := by decide +kernel
theorem gd_5_14 : decode gm_c5 14 = .ok (.iconst 0, 1) := by decide +kernel
theorem gd_5_15 : decode gm_c5 15 = .ok (.putfield 90, 3) := by decide +kernel
theorem gd_5_18 : decode gm_c5 18 = .ok (.iload_n 2, 1) := by decide +kernel
theorem gd_5_19 : decode gm_c5 19 = .ok (.ifCond .lt (14), 3) := by decide +kernel
theorem gd_5_22 : decode gm_c5 22 = .ok (.aload_n 0, 1) := by decide +kernel
theorem gd_5_23 : decode gm_c5 23 = .ok (.getfield 100, 3) := by decide +kernel
theorem gd_5_26 : decode gm_c5 26 = .ok (.iload_n 2, 1) := by decide +kernel
theorem gd_5_27 : decode gm_c5 27 = .ok (.iadd, 1) := by decide +kernel
theorem gd_5_28 : decode gm_c5 28 = .ok (.bipush (9), 2) := by decide +kernel
theorem gd_5_30 : decode gm_c5 30 = .ok (.if_icmp .le (5), 3) := by decide +kernel
theorem gd_5_33 : decode gm_c5 33 = .ok (.iconst 0, 1) := by decide +kernel
theorem gd_5_34 : decode gm_c5 34 = .ok (.ireturn, 1) := by decide +kernel
theorem gd_5_35 : decode gm_c5 35 = .ok (.iconst 0, 1) := by decide +kernel
theorem gd_5_36 : decode gm_c5 36 = .ok (.istore_n 3, 1) := by decide +kernel
theorem gd_5_37 : decode gm_c5 37 = .ok (.iload_n 3, 1) := by decide +kernel
theorem gd_5_38 : decode gm_c5 38 = .ok (.iload_n 2, 1) := by decide +kernel
theorem gd_5_39 : decode gm_c5 39 = .ok (.if_icmp .ge (38), 3) := by decide +kernel
theorem gd_5_42 : decode gm_c5 42 = .ok (.aload_n 0, 1) := by decide +kernel
theorem gd_5_43 : decode gm_c5 43 = .ok (.getfield 13, 3) := by decide +kernel
theorem gd_5_46 : decode gm_c5 46 = .ok (.aload_n 0, 1) := by decide +kernel
theorem gd_5_47 : decode gm_c5 47 = .ok (.getfield 100, 3) := by decide +kernel
theorem gd_5_50 : decode gm_c5 50 = .ok (.iload_n 1, 1) := by decide +kernel
theorem gd_5_51 : decode gm_c5 51 = .ok (.bipush (8), 2) := by decide +kernel
theorem gd_5_53 : decode gm_c5 53 = .ok (.iload_n 3, 1) := by decide +kernel
theorem gd_5_54 : decode gm_c5 54 = .ok (.imul, 1) := by decide +kernel
theorem gd_5_55 : decode gm_c5 55 = .ok (.ishr, 1) := by decide +kernel
theorem gd_5_56 : decode gm_c5 56 = .ok (.sipush (255), 3) := by decide +kernel
theorem gd_5_59 : decode gm_c5 59 = .ok (.iand, 1) := by decide +kernel
theorem gd_5_60 : decode gm_c5 60 = .ok (.iastore, 1) := by decide +kernel
theorem gd_5_61 : decode gm_c5 61 = .ok (.aload_n 0, 1) := by decide +kernel
theorem gd_5_62 : decode gm_c5 62 = .ok (.dup, 1) := by decide +kernel
theorem gd_5_63 : decode gm_c5 63 = .ok (.getfield 100, 3) := by decide +kernel
theorem gd_5_66 : decode gm_c5 66 = .ok (.iconst 1, 1) := by decide +kernel
theorem gd_5_67 : decode gm_c5 67 = .ok (.iadd, 1) := by decide +kernel
theorem gd_5_68 : decode gm_c5 68 = .ok (.putfield 100, 3) := by decide +kernel
theorem gd_5_71 : decode gm_c5 71 = .ok (.iinc 3 (1), 3) := by decide +kernel
theorem gd_5_74 : decode gm_c5 74 = .ok (.goto (-37), 3) := by decide +kernel
theorem gd_5_77 : decode gm_c5 77 = .ok (.iconst 1, 1) := by decide +kernel
theorem gd_5_78 : decode gm_c5 78 = .ok (.ireturn, 1) := by decide +kernel
theorem gd_6_0 : decode gm_c6 0 = .ok (.aload_n 0, 1) := by decide +kernel
theorem gd_6_1 : decode gm_c6 1 = .ok (.iconst 0, 1) := by decide +kernel
theorem gd_6_2 : decode gm_c6 2 = .ok (.putfield 90, 3) := by decide +kernel
theorem gd_6_5 : decode gm_c6 5 = .ok (.aload_n 0, 1) := by decide +kernel
theorem gd_6_6 : decode gm_c6 6 = .ok (.getfield 100, 3) := by decide +kernel
theorem gd_6_9 : decode gm_c6 9 = .ok (.istore_n 1, 1) := by decide +kernel
theorem gd_6_10 : decode gm_c6 10 = .ok (.aload_n 0, 1) := by decide +kernel
theorem gd_6_11 : decode gm_c6 11 = .ok (.iconst 0, 1) := by decide +kernel
theorem gd_6_12 : decode gm_c6 12 = .ok (.putfield 100, 3) := by decide +kernel
theorem gd_6_15 : decode gm_c6 15 = .ok (.iload_n 1, 1) := by decide +kernel
theorem gd_6_16 : decode gm_c6 16 = .ok (.ireturn, 1) := by decide +kernel
theorem gd_7_0 : decode gm_c7 0 = .ok (.iload_n 1, 1) := by decide +kernel
theorem gd_7_1 : decode gm_c7 1 = .ok (.aload_n 0, 1) := by decide +kernel
theorem gd_7_2 : decode gm_c7 2 = .ok (.getfield 97, 3) := by decide +kernel
theorem gd_7_5 : decode gm_c7 5 = .ok (.if_icmp .ge (12), 3) := by decide +kernel
theorem gd_7_8 : decode gm_c7 8 = .ok (.aload_n 0, 1) := by decide +kernel
theorem gd_7_9 : decode gm_c7 9 = .ok (.getfield 7, 3) := by decide +kernel
theorem gd_7_12 : decode gm_c7 12 = .ok (.iload_n 1, 1) := by decide +kernel
theorem gd_7_13 : decode gm_c7 13 = .ok (.iaload, 1) := by decide +kernel
theorem gd_7_14 : decode gm_c7 14 = .ok (.goto (4), 3) := by decide +kernel
theorem gd_7_17 : decode gm_c7 17 = .ok (.iconst 0, 1) := by decide +kernel
theorem gd_7_18 : decode gm_c7 18 = .ok (.ireturn, 1) := by decide +kernel
theorem gd_8_0 : decode gm_c8 0 = .ok (.iload_n 0, 1) := by decide +kernel
theorem gd_8_1 : decode gm_c8 1 = .ok (.bipush (97), 2) := by decide +kernel
theorem gd_8_3 : decode gm_c8 3 = .ok (.if_icmp .lt (9), 3) := by decide +kernel
theorem gd_8_6 : decode gm_c8 6 = .ok (.iload_n 0, 1) := by decide +kernel
theorem gd_8_7 : decode gm_c8 7 = .ok (.bipush (122), 2) := by decide +kernel
theorem gd_8_9 : decode gm_c8 9 = .ok (.if_icmp .le (15), 3) := by decide +kernel
theorem gd_8_12 : decode gm_c8 12 = .ok (.iload_n 0, 1) := by decide +kernel
theorem gd_8_13 : decode gm_c8 13 = .ok (.bipush (48), 2) := by decide +kernel
theorem gd_8_15 : decode gm_c8 15 = .ok (.if_icmp .lt (13), 3) := by decide +kernel
theorem gd_8_18 : decode gm_c8 18 = .ok (.iload_n 0, 1) := by decide +kernel
theorem gd_8_19 : decode gm_c8 19 = .ok (.bipush (57), 2) := by decide +kernel
theorem gd_8_21 : decode gm_c8 21 = .ok (.if_icmp .gt (7), 3) := by decide +kernel
theorem gd_8_24 : decode gm_c8 24 = .ok (.iconst 1, 1) := by decide +kernel
theorem gd_8_25 : decode gm_c8 25 = .ok (.goto (4), 3) := by decide +kernel
theorem gd_8_28 : decode gm_c8 28 = .ok (.iconst 0, 1) := by decide +kernel
theorem gd_8_29 : decode gm_c8 29 = .ok (.ireturn, 1) := by decide +kernel
theorem gd_9_0 : decode gm_c9 0 = .ok (.sipush (160), 3) := by decide +kernel
theorem gd_9_3 : decode gm_c9 3 = .ok (.aload_n 0, 1) := by decide +kernel
theorem gd_9_4 : decode gm_c9 4 = .ok (.getfield 26, 3) := by decide +kernel
theorem gd_9_7 : decode gm_c9 7 = .ok (.iconst 4, 1) := by decide +kernel
theorem gd_9_8 : decode gm_c9 8 = .ok (.iaload, 1) := by decide +kernel
theorem gd_9_9 : decode gm_c9 9 = .ok (.iadd, 1) := by decide +kernel
theorem gd_9_10 : decode gm_c9 10 = .ok (.istore_n 3, 1) := by decide +kernel
theorem gd_9_11 : decode gm_c9 11 = .ok (.aload_n 0, 1) := by decide +kernel
theorem gd_9_12 : decode gm_c9 12 = .ok (.getfield 26, 3) := by decide +kernel
theorem gd_9_15 : decode gm_c9 15 = .ok (.iconst 4, 1) := by decide +kernel
theorem gd_9_16 : decode gm_c9 16 = .ok (.dup2, 1) := by decide +kernel
theorem gd_9_17 : decode gm_c9 17 = .ok (.iaload, 1) := by decide +kernel
theorem gd_9_18 : decode gm_c9 18 = .ok (.iconst 1, 1) := by decide +kernel
theorem gd_9_19 : decode gm_c9 19 = .ok (.iadd, 1) := by decide +kernel
theorem gd_9_20 : decode gm_c9 20 = .ok (.iastore, 1) := by decide +kernel
theorem gd_9_21 : decode gm_c9 21 = .ok (.aload_n 0, 1) := by decide +kernel
theorem gd_9_22 : decode gm_c9 22 = .ok (.getfield 29, 3) := by decide +kernel
theorem gd_9_25 : decode gm_c9 25 = .ok (.iload_n 3, 1) := by decide +kernel
theorem gd_9_26 : decode gm_c9 26 = .ok (.iload_n 1, 1) := by decide +kernel
theorem gd_9_27 : decode gm_c9 27 = .ok (.iastore, 1) := by decide +kernel
theorem gd_9_28 : decode gm_c9 28 = .ok (.aload_n 0, 1) := by decide +kernel
theorem gd_9_29 : decode gm_c9 29 = .ok (.getfield 32, 3) := by decide +kernel
theorem gd_9_32 : decode gm_c9 32 = .ok (.iload_n 3, 1) := by decide +kernel
theorem gd_9_33 : decode gm_c9 33 = .ok (.iload_n 2, 1) := by decide +kernel
theorem gd_9_34 : decode gm_c9 34 = .ok (.iastore, 1) := by decide +kernel
theorem gd_9_35 : decode gm_c9 35 = .ok (.aload_n 0, 1) := by decide +kernel
theorem gd_9_36 : decode gm_c9 36 = .ok (.getfield 35, 3) := by decide +kernel
theorem gd_9_39 : decode gm_c9 39 = .ok (.iload_n 3, 1) := by decide +kernel
theorem gd_9_40 : decode gm_c9 40 = .ok (.iconst 0, 1) := by decide +kernel
theorem gd_9_41 : decode gm_c9 41 = .ok (.iastore, 1) := by decide +kernel
theorem gd_9_42 : decode gm_c9 42 = .ok (.aload_n 0, 1) := by decide +kernel
theorem gd_9_43 : decode gm_c9 43 = .ok (.getfield 38, 3) := by decide +kernel
theorem gd_9_46 : decode gm_c9 46 = .ok (.iload_n 3, 1) := by decide +kernel
theorem gd_9_47 : decode gm_c9 47 = .ok (.iconst (-1), 1) := by decide +kernel
theorem gd_9_48 : decode gm_c9 48 = .ok (.iastore, 1) := by decide +kernel
theorem gd_9_49 : decode gm_c9 49 = .ok (.aload_n 0, 1) := by decide +kernel
theorem gd_9_50 : decode gm_c9 50 = .ok (.getfield 41, 3) := by decide +kernel
theorem gd_9_53 : decode gm_c9 53 = .ok (.iload_n 3, 1) := by decide +kernel
theorem gd_9_54 : decode gm_c9 54 = .ok (.iload_n 2, 1) := by decide +kernel
theorem gd_9_55 : decode gm_c9 55 = .ok (.iastore, 1) := by decide +kernel
theorem gd_9_56 : decode gm_c9 56 = .ok (.iload_n 3, 1) := by decide +kernel
theorem gd_9_57 : decode gm_c9 57 = .ok (.ireturn, 1) := by decide +kernel
theorem gd_10_0 : decode gm_c10 0 = .ok (.aload_n 0, 1) := by decide +kernel
theorem gd_10_1 : decode gm_c10 1 = .ok (.getfield 32, 3) := by decide +kernel
theorem gd_10_4 : decode gm_c10 4 = .ok (.iload_n 1, 1) := by decide +kernel
theorem gd_10_5 : decode gm_c10 5 = .ok (.iaload, 1) := by decide +kernel
theorem gd_10_6 : decode gm_c10 6 = .ok (.ifCond .ge (13), 3) := by decide +kernel
theorem gd_10_9 : decode gm_c10 9 = .ok (.aload_n 0, 1) := by decide +kernel
theorem gd_10_10 : decode gm_c10 10 = .ok (.getfield 32, 3) := by decide +kernel
theorem gd_10_13 : decode gm_c10 13 = .ok (.iload_n 1, 1) := by decide +kernel
theorem gd_10_14 : decode gm_c10 14 = .ok (.iload_n 2, 1) := by decide +kernel
theorem gd_10_15 : decode gm_c10 15 = .ok (.iastore, 1) := by decide +kernel
theorem gd_10_16 : decode gm_c10 16 = .ok (.goto (15), 3) := by decide +kernel
theorem gd_10_19 : decode gm_c10 19 = .ok (.aload_n 0, 1) := by decide +kernel
theorem gd_10_20 : decode gm_c10 20 = .ok (.getfield 38, 3) := by decide +kernel
theorem gd_10_23 : decode gm_c10 23 = .ok (.aload_n 0, 1) := by decide +kernel
theorem gd_10_24 : decode gm_c10 24 = .ok (.getfield 41, 3) := by decide +kernel
theorem gd_10_27 : decode gm_c10 27 = .ok (.iload_n 1, 1) := by decide +kernel
theorem gd_10_28 : decode gm_c10 28 = .ok (.iaload, 1) := by decide +kernel
theorem gd_10_29 : decode gm_c10 29 = .ok (.iload_n 2, 1) := by decide +kernel
theorem gd_10_30 : decode gm_c10 30 = .ok (.iastore, 1) := by decide +kernel
theorem gd_10_31 : decode gm_c10 31 = .ok (.aload_n 0, 1) := by decide +kernel
theorem gd_10_32 : decode gm_c10 32 = .ok (.getfield 41, 3) := by decide +kernel
theorem gd_10_35 : decode gm_c10 35 = .ok (.iload_n 1, 1) := by decide +kernel
theorem gd_10_36 : decode gm_c10 36 = .ok (.iload_n 2, 1) := by decide +kernel
theorem gd_10_37 : decode gm_c10 37 = .ok (.iastore, 1) := by decide +kernel
theorem gd_10_38 : decode gm_c10 38 = .ok (.return_, 1) := by decide +kernel
theorem gd_11_0 : decode gm_c11 0 = .ok (.aload_n 0, 1) := by decide +kernel
theorem gd_11_1 : decode gm_c11 1 = .ok (.bipush (9), 2) := by decide +kernel
theorem gd_11_3 : decode gm_c11 3 = .ok (.iconst (-1), 1) := by decide +kernel
theorem gd_11_4 : decode gm_c11 4 = .ok (.invokevirtual 103, 3) := by decide +kernel
theorem gd_11_7 : decode gm_c11 7 = .ok (.istore_n 1, 1) := by decide +kernel
theorem gd_11_8 : decode gm_c11 8 = .ok (.aload_n 0, 1) := by decide +kernel
theorem gd_11_9 : decode gm_c11 9 = .ok (.getfield 56, 3) := by decide +kernel
theorem gd_11_12 : decode gm_c11 12 = .ok (.aload_n 0, 1) := by decide +kernel
theorem gd_11_13 : decode gm_c11 13 = .ok (.getfield 107, 3) := by decide +kernel
theorem gd_11_16 : decode gm_c11 16 = .ok (.iload_n 1, 1) := by decide +kernel
theorem gd_11_17 : decode gm_c11 17 = .ok (.iastore, 1) := by decide +kernel
theorem gd_11_18 : decode gm_c11 18 = .ok (.aload_n 0, 1) := by decide +kernel
theorem gd_11_19 : decode gm_c11 19 = .ok (.aload_n 0, 1) := by decide +kernel
theorem gd_11_20 : decode gm_c11 20 = .ok (.getfield 53, 3) := by decide +kernel
theorem gd_11_23 : decode gm_c11 23 = .ok (.aload_n 0, 1) := by decide +kernel
theorem gd_11_24 : decode gm_c11 24 = .ok (.getfield 107, 3) := by decide +kernel
theorem gd_11_27 : decode gm_c11 27 = .ok (.iaload, 1) := by decide +kernel
theorem gd_11_28 : decode gm_c11 28 = .ok (.iload_n 1, 1) := by decide +kernel
theorem gd_11_29 : decode gm_c11 29 = .ok (.invokevirtual 110, 3) := by decide +kernel
theorem gd_11_32 : decode gm_c11 32 = .ok (.return_, 1) := by decide +kernel
theorem gd_12_0 : decode gm_c12 0 = .ok (.aload_n 0, 1) := by decide +kernel
theorem gd_12_1 : decode gm_c12 1 = .ok (.dup, 1) := by decide +kernel
theorem gd_12_2 : decode gm_c12 2 = .ok (.getfield 107, 3) := by decide +kernel
theorem gd_12_5 : decode gm_c12 5 = .ok (.iconst 1, 1) := by decide +kernel
theorem gd_12_6 : decode gm_c12 6 = .ok (.iadd, 1) := by decide +kernel
theorem gd_12_7 : decode gm_c12 7 = .ok (.putfield 107, 3) := by decide +kernel
theorem gd_12_10 : decode gm_c12 10 = .ok (.aload_n 0, 1) := by decide +kernel
theorem gd_12_11 : decode gm_c12 11 = .ok (.getfield 59, 3) := by decide +kernel
theorem gd_12_14 : decode gm_c12 14 = .ok (.aload_n 0, 1) := by decide +kernel
theorem gd_12_15 : decode gm_c12 15 = .ok (.getfield 107, 3) := by decide +kernel
theorem gd_12_18 : decode gm_c12 18 = .ok (.iload_n 1, 1) := by decide +kernel
theorem gd_12_19 : decode gm_c12 19 = .ok (.iastore, 1) := by decide +kernel
theorem gd_12_20 : decode gm_c12 20 = .ok (.aload_n 0, 1) := by decide +kernel
theorem gd_12_21 : decode gm_c12 21 = .ok (.getfield 53, 3) := by decide +kernel
theorem gd_12_24 : decode gm_c12 24 = .ok (.aload_n 0, 1) := by decide +kernel
theorem gd_12_25 : decode gm_c12 25 = .ok (.getfield 107, 3) := by decide +kernel
theorem gd_12_28 : decode gm_c12 28 = .ok (.aload_n 0, 1) := by decide +kernel
theorem gd_12_29 : decode gm_c12 29 = .ok (.bipush (10), 2) := by decide +kernel
theorem gd_12_31 : decode gm_c12 31 = .ok (.iconst (-1), 1) := by decide +kernel
theorem gd_12_32 : decode gm_c12 32 = .ok (.invokevirtual 103, 3) := by decide +kernel
theorem gd_12_35 : decode gm_c12 35 = .ok (.iastore, 1) := by decide +kernel
theorem gd_12_36 : decode gm_c12 36 = .ok (.aload_n 0, 1) := by decide +kernel
theorem gd_12_37 : decode gm_c12 37 = .ok (.invokevirtual 114, 3) := by decide +kernel
theorem gd_12_40 : decode gm_c12 40 = .ok (.return_, 1) := by decide +kernel
theorem gd_13_0 : decode gm_c13 0 = .ok (.aload_n 0, 1) := by decide +kernel
theorem gd_13_1 : decode gm_c13 1 = .ok (.iconst 0, 1) := by decide +kernel
theorem gd_13_2 : decode gm_c13 2 = .ok (.iload_n 1, 1) := by decide +kernel
theorem gd_13_3 : decode gm_c13 3 = .ok (.invokevirtual 103, 3) := by decide +kernel
theorem gd_13_6 : decode gm_c13 6 = .ok (.istore_n 3, 1) := by decide +kernel
theorem gd_13_7 : decode gm_c13 7 = .ok (.aload_n 0, 1) := by decide +kernel
theorem gd_13_8 : decode gm_c13 8 = .ok (.getfield 35, 3) := by decide +kernel
theorem gd_13_11 : decode gm_c13 11 = .ok (.iload_n 3, 1) := by decide +kernel
theorem gd_13_12 : decode gm_c13 12 = .ok (.iload_n 2, 1) := by decide +kernel
theorem gd_13_13 : decode gm_c13 13 = .ok (.iastore, 1) := by decide +kernel
theorem gd_13_14 : decode gm_c13 14 = .ok (.iload_n 3, 1) := by decide +kernel
theorem gd_13_15 : decode gm_c13 15 = .ok (.ireturn, 1) := by decide +kernel
theorem gd_14_0 : decode gm_c14 0 = .ok (.aload_n 0, 1) := by decide +kernel
theorem gd_14_1 : decode gm_c14 1 = .ok (.aload_n 0, 1) := by decide +kernel
theorem gd_14_2 : decode gm_c14 2 = .ok (.getfield 117, 3) := by decide +kernel
theorem gd_14_5 : decode gm_c14 5 = .ok (.invokevirtual 120, 3) := by decide +kernel
theorem gd_14_8 : decode gm_c14 8 = .ok (.istore_n 1, 1) := by decide +kernel
theorem gd_14_9 : decode gm_c14 9 = .ok (.iload_n 1, 1) := by decide +kernel
theorem gd_14_10 : decode gm_c14 10 = .ok (.invokestatic 123, 3) := by decide +kernel
theorem gd_14_13 : decode gm_c14 13 = .ok (.ifCond .eq (20), 3) := by decide +kernel
theorem gd_14_16 : decode gm_c14 16 = .ok (.aload_n 0, 1) := by decide +kernel
theorem gd_14_17 : decode gm_c14 17 = .ok (.dup, 1) := by decide +kernel
theorem gd_14_18 : decode gm_c14 18 = .ok (.getfield 117, 3) := by decide +kernel
theorem gd_14_21 : decode gm_c14 21 = .ok (.iconst 1, 1) := by decide +kernel
theorem gd_14_22 : decode gm_c14 22 = .ok (.iadd, 1) := by decide +kernel
theorem gd_14_23 : decode gm_c14 23 = .ok (.putfield 117, 3) := by decide +kernel
theorem gd_14_26 : decode gm_c14 26 = .ok (.aload_n 0, 1) := by decide +kernel
theorem gd_14_27 : decode gm_c14 27 = .ok (.iload_n 1, 1) := by decide +kernel
theorem gd_14_28 : decode gm_c14 28 = .ok (.iload_n 1, 1) := by decide +kernel
theorem gd_14_29 : decode gm_c14 29 = .ok (.invokevirtual 127, 3) := by decide +kernel
theorem gd_14_32 : decode gm_c14 32 = .ok (.ireturn, 1) := by decide +kernel
theorem gd_14_33 : decode gm_c14 33 = .ok (.iload_n 1, 1) := by decide +kernel
theorem gd_14_34 : decode gm_c14 34 = .ok (.bipush (46), 2) := by decide +kernel
theorem gd_14_36 : decode gm_c14 36 = .ok (.if_icmp .ne (21), 3) := by decide +kernel
theorem gd_14_39 : decode gm_c14 39 = .ok (.aload_n 0, 1) := by decide +kernel
theorem gd_14_40 : decode gm_c14 40 = .ok (.dup, 1) := by decide +kernel
theorem gd_14_41 : decode gm_c14 41 = .ok (.getfield 117, 3) := by decide +kernel
theorem gd_14_44 : decode gm_c14 44 = .ok (.iconst 1, 1) := by decide +kernel
theorem gd_14_45 : decode gm_c14 45 = .ok (.iadd, 1) := by decide +kernel
theorem gd_14_46 : decode gm_c14 46 = .ok (.putfield 117, 3) := by decide +kernel
theorem gd_14_49 : decode gm_c14 49 = .ok (.aload_n 0, 1) := by decide +kernel
theorem gd_14_50 : decode gm_c14 50 = .ok (.iconst 0, 1) := by decide +kernel
theorem gd_14_51 : decode gm_c14 51 = .ok (.bipush (127), 2) := by decide +kernel
theorem gd_14_53 : decode gm_c14 53 = .ok (.invokevirtual 127, 3) := by decide +kernel
theorem gd_14_56 : decode gm_c14 56 = .ok (.ireturn, 1) := by decide +kernel
theorem gd_14_57 : decode gm_c14 57 = .ok (.iload_n 1, 1) := by decide +kernel
theorem gd_14_58 : decode gm_c14 58 = .ok (.bipush (65), 2) := by decide +kernel
theorem gd_14_60 : decode gm_c14 60 = .ok (.if_icmp .lt (29), 3) := by decide +kernel
theorem gd_14_63 : decode gm_c14 63 = .ok (.iload_n 1, 1) := by decide +kernel
theorem gd_14_64 : decode gm_c14 64 = .ok (.bipush (68), 2) := by decide +kernel
theorem gd_14_66 : decode gm_c14 66 = .ok (.if_icmp .gt (23), 3) := by decide +kernel
theorem gd_14_69 : decode gm_c14 69 = .ok (.aload_n 0, 1) := by decide +kernel
theorem gd_14_70 : decode gm_c14 70 = .ok (.dup, 1) := by decide +kernel
theorem gd_14_71 : decode gm_c14 71 = .ok (.getfield 117, 3) := by decide +kernel
theorem gd_14_74 : decode gm_c14 74 = .ok (.iconst 1, 1) := by decide +kernel
theorem gd_14_75 : decode gm_c14 75 = .ok (.iadd, 1) := by decide +kernel
theorem gd_14_76 : decode gm_c14 76 = .ok (.putfield 117, 3) := by decide +kernel
theorem gd_14_79 : decode gm_c14 79 = .ok (.aload_n 0, 1) := by decide +kernel
theorem gd_14_80 : decode gm_c14 80 = .ok (.iconst 1, 1) := by decide +kernel
theorem gd_14_81 : decode gm_c14 81 = .ok (.iload_n 1, 1) := by decide +kernel
theorem gd_14_82 : decode gm_c14 82 = .ok (.bipush (65), 2) := by decide +kernel
theorem gd_14_84 : decode gm_c14 84 = .ok (.isub, 1) := by decide +kernel
theorem gd_14_85 : decode gm_c14 85 = .ok (.invokevirtual 103, 3) := by decide +kernel
theorem gd_14_88 : decode gm_c14 88 = .ok (.ireturn, 1) := by decide +kernel
theorem gd_14_89 : decode gm_c14 89 = .ok (.iload_n 1, 1) := by decide +kernel
theorem gd_14_90 : decode gm_c14 90 = .ok (.bipush (123), 2) := by decide +kernel
theorem gd_14_92 : decode gm_c14 92 = .ok (.if_icmp .ne (44), 3) := by decide +kernel
theorem gd_14_95 : decode gm_c14 95 = .ok (.aload_n 0, 1) := by decide +kernel
theorem gd_14_96 : decode gm_c14 96 = .ok (.aload_n 0, 1) := by decide +kernel
theorem gd_14_97 : decode gm_c14 97 = .ok (.getfield 117, 3) := by decide +kernel
theorem gd_14_100 : decode gm_c14 100 = .ok (.iconst 1, 1) := by decide +kernel
theorem gd_14_101 : decode gm_c14 101 = .ok (.iadd, 1) := by decide +kernel
theorem gd_14_102 : decode gm_c14 102 = .ok (.invokevirtual 120, 3) := by decide +kernel
theorem gd_14_105 : decode gm_c14 105 = .ok (.bipush (125), 2) := by decide +kernel
theorem gd_14_107 : decode gm_c14 107 = .ok (.if_icmp .ne (29), 3) := by decide +kernel
theorem gd_14_110 : decode gm_c14 110 = .ok (.aload_n 0, 1) := by decide +kernel
theorem gd_14_111 : decode gm_c14 111 = .ok (.getfield 107, 3) := by decide +kernel
theorem gd_14_114 : decode gm_c14 114 = .ok (.bipush (6), 2) := by decide +kernel
theorem gd_14_116 : decode gm_c14 116 = .ok (.if_icmp .ge (20), 3) := by decide +kernel
theorem gd_14_119 : decode gm_c14 119 = .ok (.aload_n 0, 1) := by decide +kernel
theorem gd_14_120 : decode gm_c14 120 = .ok (.aload_n 0, 1) := by decide +kernel
theorem gd_14_121 : decode gm_c14 121 = .ok (.getfield 117, 3) := by decide +kernel
theorem gd_14_124 : decode gm_c14 124 = .ok (.iconst 2, 1) := by decide +kernel
theorem gd_14_125 : decode gm_c14 125 = .ok (.iadd, 1) := by decide +kernel
theorem gd_14_126 : decode gm_c14 126 = .ok (.putfield 117, 3) := by decide +kernel
theorem gd_14_129 : decode gm_c14 129 = .ok (.aload_n 0, 1) := by decide +kernel
theorem gd_14_130 : decode gm_c14 130 = .ok (.iconst 2, 1) := by decide +kernel
theorem gd_14_131 : decode gm_c14 131 = .ok (.iconst 0, 1) := by decide +kernel
theorem gd_14_132 : decode gm_c14 132 = .ok (.invokevirtual 103, 3) := by decide +kernel
theorem gd_14_135 : decode gm_c14 135 = .ok (.ireturn, 1) := by decide +kernel
theorem gd_14_136 : decode gm_c14 136 = .ok (.iload_n 1, 1) := by decide +kernel
theorem gd_14_137 : decode gm_c14 137 = .ok (.bipush (91), 2) := by decide +kernel
theorem gd_14_139 : decode gm_c14 139 = .ok (.if_icmp .ne (102), 3) := by decide +kernel
theorem gd_14_142 : decode gm_c14 142 = .ok (.aload_n 0, 1) := by decide +kernel
theorem gd_14_143 : decode gm_c14 143 = .ok (.aload_n 0, 1) := by decide +kernel
theorem gd_14_144 : decode gm_c14 144 = .ok (.getfield 117, 3) := by decide +kernel
theorem gd_14_147 : decode gm_c14 147 = .ok (.iconst 1, 1) := by decide +kernel
theorem gd_14_148 : decode gm_c14 148 = .ok (.iadd, 1) := by decide +kernel
theorem gd_14_149 : decode gm_c14 149 = .ok (.invokevirtual 120, 3) := by decide +kernel
theorem gd_14_152 : decode gm_c14 152 = .ok (.invokestatic 123, 3) := by decide +kernel
theorem gd_14_155 : decode gm_c14 155 = .ok (.ifCond .eq (86), 3) := by decide +kernel
theorem gd_14_158 : decode gm_c14 158 = .ok (.aload_n 0, 1) := by decide +kernel
theorem gd_14_159 : decode gm_c14 159 = .ok (.aload_n 0, 1) := by decide +kernel
theorem gd_14_160 : decode gm_c14 160 = .ok (.getfield 117, 3) := by decide +kernel
theorem gd_14_163 : decode gm_c14 163 = .ok (.iconst 2, 1) := by decide +kernel
theorem gd_14_164 : decode gm_c14 164 = .ok (.iadd, 1) := by decide +kernel
theorem gd_14_165 : decode gm_c14 165 = .ok (.invokevirtual 120, 3) := by decide +kernel
theorem gd_14_168 : decode gm_c14 168 = .ok (.bipush (45), 2) := by decide +kernel
theorem gd_14_170 : decode gm_c14 170 = .ok (.if_icmp .ne (71), 3) := by decide +kernel
theorem gd_14_173 : decode gm_c14 173 = .ok (.aload_n 0, 1) := by decide +kernel
theorem gd_14_174 : decode gm_c14 174 = .ok (.aload_n 0, 1) := by decide +kernel
theorem gd_14_175 : decode gm_c14 175 = .ok (.getfield 117, 3) := by decide +kernel
theorem gd_14_178 : decode gm_c14 178 = .ok (.iconst 3, 1) := by decide +kernel
theorem gd_14_179 : decode gm_c14 179 = .ok (.iadd, 1) := by decide +kernel
theorem gd_14_180 : decode gm_c14 180 = .ok (.invokevirtual 120, 3) := by decide +kernel
theorem gd_14_183 : decode gm_c14 183 = .ok (.invokestatic 123, 3) := by decide +kernel
theorem gd_14_186 : decode gm_c14 186 = .ok (.ifCond .eq (55), 3) := by decide +kernel
theorem gd_14_189 : decode gm_c14 189 = .ok (.aload_n 0, 1) := by decide +kernel
theorem gd_14_190 : decode gm_c14 190 = .ok (.aload_n 0, 1) := by decide +kernel
theorem gd_14_191 : decode gm_c14 191 = .ok (.getfield 117, 3) := by decide +kernel
theorem gd_14_194 : decode gm_c14 194 = .ok (.iconst 4, 1) := by decide +kernel
theorem gd_14_195 : decode gm_c14 195 = .ok (.iadd, 1) := by decide +kernel
theorem gd_14_196 : decode gm_c14 196 = .ok (.invokevirtual 120, 3) := by decide +kernel
theorem gd_14_199 : decode gm_c14 199 = .ok (.bipush (93), 2) := by decide +kernel
theorem gd_14_201 : decode gm_c14 201 = .ok (.if_icmp .ne (40), 3) := by decide +kernel
theorem gd_14_204 : decode gm_c14 204 = .ok (.aload_n 0, 1) := by decide +kernel
theorem gd_14_205 : decode gm_c14 205 = .ok (.aload_n 0, 1) := by decide +kernel
theorem gd_14_206 : decode gm_c14 206 = .ok (.aload_n 0, 1) := by decide +kernel
theorem gd_14_207 : decode gm_c14 207 = .ok (.getfield 117, 3) := by decide +kernel
theorem gd_14_210 : decode gm_c14 210 = .ok (.iconst 1, 1) := by decide +kernel
theorem gd_14_211 : decode gm_c14 211 = .ok (.iadd, 1) := by decide +kernel
theorem gd_14_212 : decode gm_c14 212 = .ok (.invokevirtual 120, 3) := by decide +kernel
theorem gd_14_215 : decode gm_c14 215 = .ok (.aload_n 0, 1) := by decide +kernel
theorem gd_14_216 : decode gm_c14 216 = .ok (.aload_n 0, 1) := by decide +kernel
theorem gd_14_217 : decode gm_c14 217 = .ok (.getfield 117, 3) := by decide +kernel
theorem gd_14_220 : decode gm_c14 220 = .ok (.iconst 3, 1) := by decide +kernel
theorem gd_14_221 : decode gm_c14 221 = .ok (.iadd, 1) := by decide +kernel
theorem gd_14_222 : decode gm_c14 222 = .ok (.invokevirtual 120, 3) := by decide +kernel
theorem gd_14_225 : decode gm_c14 225 = .ok (.invokevirtual 127, 3) := by decide +kernel
theorem gd_14_228 : decode gm_c14 228 = .ok (.istore_n 2, 1) := by decide +kernel
theorem gd_14_229 : decode gm_c14 229 = .ok (.aload_n 0, 1) := by decide +kernel
theorem gd_14_230 : decode gm_c14 230 = .ok (.aload_n 0, 1) := by decide +kernel
theorem gd_14_231 : decode gm_c14 231 = .ok (.getfield 117, 3) := by decide +kernel
theorem gd_14_234 : decode gm_c14 234 = .ok (.iconst 5, 1) := by decide +kernel
theorem gd_14_235 : decode gm_c14 235 = .ok (.iadd, 1) := by decide +kernel
theorem gd_14_236 : decode gm_c14 236 = .ok (.putfield 117, 3) := by decide +kernel
theorem gd_14_239 : decode gm_c14 239 = .ok (.iload_n 2, 1) := by decide +kernel
theorem gd_14_240 : decode gm_c14 240 = .ok (.ireturn, 1) := by decide +kernel
theorem gd_14_241 : decode gm_c14 241 = .ok (.iconst (-1), 1) := by decide +kernel
theorem gd_14_242 : decode gm_c14 242 = .ok (.ireturn, 1) := by decide +kernel
theorem gd_15_0 : decode gm_c15 0 = .ok (.iload_n 1, 1) := by decide +kernel
theorem gd_15_1 : decode gm_c15 1 = .ok (.istore_n 2, 1) := by decide +kernel
theorem gd_15_2 : decode gm_c15 2 = .ok (.aload_n 0, 1) := by decide +kernel
theorem gd_15_3 : decode gm_c15 3 = .ok (.aload_n 0, 1) := by decide +kernel
theorem gd_15_4 : decode gm_c15 4 = .ok (.getfield 117, 3) := by decide +kernel
theorem gd_15_7 : decode gm_c15 7 = .ok (.invokevirtual 120, 3) := by decide +kernel
theorem gd_15_10 : decode gm_c15 10 = .ok (.istore_n 3, 1) := by decide +kernel
theorem gd_15_11 : decode gm_c15 11 = .ok (.iload_n 3, 1) := by decide +kernel
theorem gd_15_12 : decode gm_c15 12 = .ok (.bipush (42), 2) := by decide +kernel
theorem gd_15_14 : decode gm_c15 14 = .ok (.if_icmp .eq (15), 3) := by decide +kernel
theorem gd_15_17 : decode gm_c15 17 = .ok (.iload_n 3, 1) := by decide +kernel
theorem gd_15_18 : decode gm_c15 18 = .ok (.bipush (43), 2) := by decide +kernel
theorem gd_15_20 : decode gm_c15 20 = .ok (.if_icmp .eq (9), 3) := by decide +kernel
theorem gd_15_23 : decode gm_c15 23 = .ok (.iload_n 3, 1) := by decide +kernel
theorem gd_15_24 : decode gm_c15 24 = .ok (.bipush (63), 2) := by decide +kernel
theorem gd_15_26 : decode gm_c15 26 = .ok (.if_icmp .ne (41), 3) := by decide +kernel
theorem gd_15_29 : decode gm_c15 29 = .ok (.aload_n 0, 1) := by decide +kernel
theorem gd_15_30 : decode gm_c15 30 = .ok (.iload_n 3, 1) := by decide +kernel
theorem gd_15_31 : decode gm_c15 31 = .ok (.bipush (42), 2) := by decide +kernel
theorem gd_15_33 : decode gm_c15 33 = .ok (.if_icmp .ne (7), 3) := by decide +kernel
theorem gd_15_36 : decode gm_c15 36 = .ok (.iconst 4, 1) := by decide +kernel
theorem gd_15_37 : decode gm_c15 37 = .ok (.goto (15), 3) := by decide +kernel
theorem gd_15_40 : decode gm_c15 40 = .ok (.iload_n 3, 1) := by decide +kernel
theorem gd_15_41 : decode gm_c15 41 = .ok (.bipush (43), 2) := by decide +kernel
theorem gd_15_43 : decode gm_c15 43 = .ok (.if_icmp .ne (7), 3) := by decide +kernel
theorem gd_15_46 : decode gm_c15 46 = .ok (.iconst 5, 1) := by decide +kernel
theorem gd_15_47 : decode gm_c15 47 = .ok (.goto (5), 3) := by decide +kernel
theorem gd_15_50 : decode gm_c15 50 = .ok (.bipush (6), 2) := by decide +kernel
theorem gd_15_52 : decode gm_c15 52 = .ok (.iload_n 2, 1) := by decide +kernel
theorem gd_15_53 : decode gm_c15 53 = .ok (.invokevirtual 103, 3) := by decide +kernel
theorem gd_15_56 : decode gm_c15 56 = .ok (.istore_n 2, 1) := by decide +kernel
theorem gd_15_57 : decode gm_c15 57 = .ok (.aload_n 0, 1) := by decide +kernel
theorem gd_15_58 : decode gm_c15 58 = .ok (.dup, 1) := by decide +kernel
theorem gd_15_59 : decode gm_c15 59 = .ok (.getfield 117, 3) := by decide +kernel
theorem gd_15_62 : decode gm_c15 62 = .ok (.iconst 1, 1) := by decide +kernel
theorem gd_15_63 : decode gm_c15 63 = .ok (.iadd, 1) := by decide +kernel
theorem gd_15_64 : decode gm_c15 64 = .ok (.putfield 117, 3) := by decide +kernel
theorem gd_15_67 : decode gm_c15 67 = .ok (.aload_n 0, 1) := by decide +kernel
theorem gd_15_68 : decode gm_c15 68 = .ok (.getfield 65, 3) := by decide +kernel
theorem gd_15_71 : decode gm_c15 71 = .ok (.aload_n 0, 1) := by decide +kernel
theorem gd_15_72 : decode gm_c15 72 = .ok (.getfield 107, 3) := by decide +kernel
theorem gd_15_75 : decode gm_c15 75 = .ok (.iaload, 1) := by decide +kernel
theorem gd_15_76 : decode gm_c15 76 = .ok (.iconst 1, 1) := by decide +kernel
theorem gd_15_77 : decode gm_c15 77 = .ok (.isub, 1) := by decide +kernel
theorem gd_15_78 : decode gm_c15 78 = .ok (.istore 4, 2) := by decide +kernel
theorem gd_15_80 : decode gm_c15 80 = .ok (.iload 4, 2) := by decide +kernel
theorem gd_15_82 : decode gm_c15 82 = .ok (.aload_n 0, 1) := by decide +kernel
theorem gd_15_83 : decode gm_c15 83 = .ok (.getfield 62, 3) := by decide +kernel
theorem gd_15_86 : decode gm_c15 86 = .ok (.aload_n 0, 1) := by decide +kernel
theorem gd_15_87 : decode gm_c15 87 = .ok (.getfield 107, 3) := by decide +kernel
theorem gd_15_90 : decode gm_c15 90 = .ok (.iaload, 1) := by decide +kernel
theorem gd_15_91 : decode gm_c15 91 = .ok (.if_icmp .lt (34), 3) := by decide +kernel
theorem gd_15_94 : decode gm_c15 94 = .ok (.aload_n 0, 1) := by decide +kernel
theorem gd_15_95 : decode gm_c15 95 = .ok (.aload_n 0, 1) := by decide +kernel
theorem gd_15_96 : decode gm_c15 96 = .ok (.getfield 7, 3) := by decide +kernel
theorem gd_15_99 : decode gm_c15 99 = .ok (.iload 4, 2) := by decide +kernel
theorem gd_15_101 : decode gm_c15 101 = .ok (.iaload, 1) := by decide +kernel
theorem gd_15_102 : decode gm_c15 102 = .ok (.bipush (38), 2) := by decide +kernel
theorem gd_15_104 : decode gm_c15 104 = .ok (.if_icmp .ne (8), 3) := by decide +kernel
theorem gd_15_107 : decode gm_c15 107 = .ok (.bipush (7), 2) := by decide +kernel
theorem gd_15_109 : decode gm_c15 109 = .ok (.goto (5), 3) := by decide +kernel
theorem gd_15_112 : decode gm_c15 112 = .ok (.bipush (8), 2) := by decide +kernel
theorem gd_15_114 : decode gm_c15 114 = .ok (.iload_n 2, 1) := by decide +kernel
theorem gd_15_115 : decode gm_c15 115 = .ok (.invokevirtual 103, 3) := by decide +kernel
theorem gd_15_118 : decode gm_c15 118 = .ok (.istore_n 2, 1) := by decide +kernel
theorem gd_15_119 : decode gm_c15 119 = .ok (.iinc 4 (-1), 3) := by decide +kernel
theorem gd_15_122 : decode gm_c15 122 = .ok (.goto (-42), 3) := by decide +kernel
theorem gd_15_125 : decode gm_c15 125 = .ok (.aload_n 0, 1) := by decide +kernel
theorem gd_15_126 : decode gm_c15 126 = .ok (.aload_n 0, 1) := by decide +kernel
theorem gd_15_127 : decode gm_c15 127 = .ok (.getfield 56, 3) := by decide +kernel
theorem gd_15_130 : decode gm_c15 130 = .ok (.aload_n 0, 1) := by decide +kernel
theorem gd_15_131 : decode gm_c15 131 = .ok (.getfield 107, 3) := by decide +kernel
theorem gd_15_134 : decode gm_c15 134 = .ok (.iaload, 1) := by decide +kernel
theorem gd_15_135 : decode gm_c15 135 = .ok (.iload_n 2, 1) := by decide +kernel
theorem gd_15_136 : decode gm_c15 136 = .ok (.invokevirtual 110, 3) := by decide +kernel
theorem gd_15_139 : decode gm_c15 139 = .ok (.return_, 1) := by decide +kernel
theorem gd_16_0 : decode gm_c16 0 = .ok (.aload_n 0, 1) := by decide +kernel
theorem gd_16_1 : decode gm_c16 1 = .ok (.getfield 107, 3) := by decide +kernel
theorem gd_16_4 : decode gm_c16 4 = .ok (.ifCond .le (98), 3) := by decide +kernel
theorem gd_16_7 : decode gm_c16 7 = .ok (.aload_n 0, 1) := by decide +kernel
theorem gd_16_8 : decode gm_c16 8 = .ok (.aload_n 0, 1) := by decide +kernel
theorem gd_16_9 : decode gm_c16 9 = .ok (.getfield 117, 3) := by decide +kernel
theorem gd_16_12 : decode gm_c16 12 = .ok (.invokevirtual 120, 3) := by decide +kernel
theorem gd_16_15 : decode gm_c16 15 = .ok (.aload_n 0, 1) := by decide +kernel
theorem gd_16_16 : decode gm_c16 16 = .ok (.getfield 59, 3) := by decide +kernel
theorem gd_16_19 : decode gm_c16 19 = .ok (.aload_n 0, 1) := by decide +kernel
theorem gd_16_20 : decode gm_c16 20 = .ok (.getfield 107, 3) := by decide +kernel
theorem gd_16_23 : decode gm_c16 23 = .ok (.iaload, 1) := by decide +kernel
theorem gd_16_24 : decode gm_c16 24 = .ok (.bipush (40), 2) := by decide +kernel
theorem gd_16_26 : decode gm_c16 26 = .ok (.if_icmp .ne (8), 3) := by decide +kernel
theorem gd_16_29 : decode gm_c16 29 = .ok (.bipush (41), 2) := by decide +kernel
theorem gd_16_31 : decode gm_c16 31 = .ok (.goto (5), 3) := by decide +kernel
theorem gd_16_34 : decode gm_c16 34 = .ok (.bipush (125), 2) := by decide +kernel
theorem gd_16_36 : decode gm_c16 36 = .ok (.if_icmp .ne (66), 3) := by decide +kernel
theorem gd_16_39 : decode gm_c16 39 = .ok (.aload_n 0, 1) := by decide +kernel
theorem gd_16_40 : decode gm_c16 40 = .ok (.getfield 53, 3) := by decide +kernel
theorem gd_16_43 : decode gm_c16 43 = .ok (.aload_n 0, 1) := by decide +kernel
theorem gd_16_44 : decode gm_c16 44 = .ok (.getfield 107, 3) := by decide +kernel
theorem gd_16_47 : decode gm_c16 47 = .ok (.iaload, 1) := by decide +kernel
theorem gd_16_48 : decode gm_c16 48 = .ok (.istore_n 1, 1) := by decide +kernel
theorem gd_16_49 : decode gm_c16 49 = .ok (.aload_n 0, 1) := by decide +kernel
theorem gd_16_50 : decode gm_c16 50 = .ok (.getfield 59, 3) := by decide +kernel
theorem gd_16_53 : decode gm_c16 53 = .ok (.aload_n 0, 1) := by decide +kernel
theorem gd_16_54 : decode gm_c16 54 = .ok (.getfield 107, 3) := by decide +kernel
theorem gd_16_57 : decode gm_c16 57 = .ok (.iaload, 1) := by decide +kernel
theorem gd_16_58 : decode gm_c16 58 = .ok (.bipush (123), 2) := by decide +kernel
theorem gd_16_60 : decode gm_c16 60 = .ok (.if_icmp .ne (12), 3) := by decide +kernel
theorem gd_16_63 : decode gm_c16 63 = .ok (.aload_n 0, 1) := by decide +kernel
theorem gd_16_64 : decode gm_c16 64 = .ok (.iconst 3, 1) := by decide +kernel
theorem gd_16_65 : decode gm_c16 65 = .ok (.iload_n 1, 1) := by decide +kernel
theorem gd_16_66 : decode gm_c16 66 = .ok (.invokevirtual 103, 3) := by decide +kernel
theorem gd_16_69 : decode gm_c16 69 = .ok (.goto (4), 3) := by decide +kernel
theorem gd_16_72 : decode gm_c16 72 = .ok (.iload_n 1, 1) := by decide +kernel
theorem gd_16_73 : decode gm_c16 73 = .ok (.istore_n 1, 1) := by decide +kernel
theorem gd_16_74 : decode gm_c16 74 = .ok (.aload_n 0, 1) := by decide +kernel
theorem gd_16_75 : decode gm_c16 75 = .ok (.dup, 1) := by decide +kernel
theorem gd_16_76 : decode gm_c16 76 = .ok (.getfield 117, 3) := by decide +kernel
theorem gd_16_79 : decode gm_c16 79 = .ok (.iconst 1, 1) := by decide +kernel
theorem gd_16_80 : decode gm_c16 80 = .ok (.iadd, 1) := by decide +kernel
theorem gd_16_81 : decode gm_c16 81 = .ok (.putfield 117, 3) := by decide +kernel
theorem gd_16_84 : decode gm_c16 84 = .ok (.aload_n 0, 1) := by decide +kernel
theorem gd_16_85 : decode gm_c16 85 = .ok (.dup, 1) := by decide +kernel
theorem gd_16_86 : decode gm_c16 86 = .ok (.getfield 107, 3) := by decide +kernel
theorem gd_16_89 : decode gm_c16 89 = .ok (.iconst 1, 1) := by decide +kernel
theorem gd_16_90 : decode gm_c16 90 = .ok (.isub, 1) := by decide +kernel
theorem gd_16_91 : decode gm_c16 91 = .ok (.putfield 107, 3) := by decide +kernel
theorem gd_16_94 : decode gm_c16 94 = .ok (.aload_n 0, 1) := by decide +kernel
theorem gd_16_95 : decode gm_c16 95 = .ok (.iload_n 1, 1) := by decide +kernel
theorem gd_16_96 : decode gm_c16 96 = .ok (.invokevirtual 130, 3) := by decide +kernel
theorem gd_16_99 : decode gm_c16 99 = .ok (.goto (-99), 3) := by decide +kernel
theorem gd_16_102 : decode gm_c16 102 = .ok (.return_, 1) := by decide +kernel
theorem gd_17_0 : decode gm_c17 0 = .ok (.aload_n 0, 1) := by decide +kernel
theorem gd_17_1 : decode gm_c17 1 = .ok (.getfield 62, 3) := by decide +kernel
theorem gd_17_4 : decode gm_c17 4 = .ok (.aload_n 0, 1) := by decide +kernel
theorem gd_17_5 : decode gm_c17 5 = .ok (.getfield 107, 3) := by decide +kernel
theorem gd_17_8 : decode gm_c17 8 = .ok (.aload_n 0, 1) := by decide +kernel
theorem gd_17_9 : decode gm_c17 9 = .ok (.getfield 117, 3) := by decide +kernel
theorem gd_17_12 : decode gm_c17 12 = .ok (.iastore, 1) := by decide +kernel
theorem gd_17_13 : decode gm_c17 13 = .ok (.aload_n 0, 1) := by decide +kernel
theorem gd_17_14 : decode gm_c17 14 = .ok (.aload_n 0, 1) := by decide +kernel
theorem gd_17_15 : decode gm_c17 15 = .ok (.getfield 117, 3) := by decide +kernel
theorem gd_17_18 : decode gm_c17 18 = .ok (.invokevirtual 120, 3) := by decide +kernel
theorem gd_17_21 : decode gm_c17 21 = .ok (.bipush (38), 2) := by decide +kernel
theorem gd_17_23 : decode gm_c17 23 = .ok (.if_icmp .eq (16), 3) := by decide +kernel
theorem gd_17_26 : decode gm_c17 26 = .ok (.aload_n 0, 1) := by decide +kernel
theorem gd_17_27 : decode gm_c17 27 = .ok (.aload_n 0, 1) := by decide +kernel
theorem gd_17_28 : decode gm_c17 28 = .ok (.getfield 117, 3) := by decide +kernel
theorem gd_17_31 : decode gm_c17 31 = .ok (.invokevirtual 120, 3) := by decide +kernel
theorem gd_17_34 : decode gm_c17 34 = .ok (.bipush (33), 2) := by decide +kernel
theorem gd_17_36 : decode gm_c17 36 = .ok (.if_icmp .ne (16), 3) := by decide +kernel
theorem gd_17_39 : decode gm_c17 39 = .ok (.aload_n 0, 1) := by decide +kernel
theorem gd_17_40 : decode gm_c17 40 = .ok (.dup, 1) := by decide +kernel
theorem gd_17_41 : decode gm_c17 41 = .ok (.getfield 117, 3) := by decide +kernel
theorem gd_17_44 : decode gm_c17 44 = .ok (.iconst 1, 1) := by decide +kernel
theorem gd_17_45 : decode gm_c17 45 = .ok (.iadd, 1) := by decide +kernel
theorem gd_17_46 : decode gm_c17 46 = .ok (.putfield 117, 3) := by decide +kernel
theorem gd_17_49 : decode gm_c17 49 = .ok (.goto (-36), 3) := by decide +kernel
theorem gd_17_52 : decode gm_c17 52 = .ok (.aload_n 0, 1) := by decide +kernel
theorem gd_17_53 : decode gm_c17 53 = .ok (.getfield 65, 3) := by decide +kernel
theorem gd_17_56 : decode gm_c17 56 = .ok (.aload_n 0, 1) := by decide +kernel
theorem gd_17_57 : decode gm_c17 57 = .ok (.getfield 107, 3) := by decide +kernel
theorem gd_17_60 : decode gm_c17 60 = .ok (.aload_n 0, 1) := by decide +kernel
theorem gd_17_61 : decode gm_c17 61 = .ok (.getfield 117, 3) := by decide +kernel
theorem gd_17_64 : decode gm_c17 64 = .ok (.iastore, 1) := by decide +kernel
theorem gd_17_65 : decode gm_c17 65 = .ok (.aload_n 0, 1) := by decide +kernel
theorem gd_17_66 : decode gm_c17 66 = .ok (.aload_n 0, 1) := by decide +kernel
theorem gd_17_67 : decode gm_c17 67 = .ok (.getfield 117, 3) := by decide +kernel
theorem gd_17_70 : decode gm_c17 70 = .ok (.invokevirtual 120, 3) := by decide +kernel
theorem gd_17_73 : decode gm_c17 73 = .ok (.istore_n 1, 1) := by decide +kernel
theorem gd_17_74 : decode gm_c17 74 = .ok (.iload_n 1, 1) := by decide +kernel
theorem gd_17_75 : decode gm_c17 75 = .ok (.bipush (123), 2) := by decide +kernel
theorem gd_17_77 : decode gm_c17 77 = .ok (.if_icmp .ne (22), 3) := by decide +kernel
theorem gd_17_80 : decode gm_c17 80 = .ok (.aload_n 0, 1) := by decide +kernel
theorem gd_17_81 : decode gm_c17 81 = .ok (.aload_n 0, 1) := by decide +kernel
theorem gd_17_82 : decode gm_c17 82 = .ok (.getfield 117, 3) := by decide +kernel
theorem gd_17_85 : decode gm_c17 85 = .ok (.iconst 1, 1) := by decide +kernel
theorem gd_17_86 : decode gm_c17 86 = .ok (.iadd, 1) := by decide +kernel
theorem gd_17_87 : decode gm_c17 87 = .ok (.invokevirtual 120, 3) := by decide +kernel
theorem gd_17_90 : decode gm_c17 90 = .ok (.bipush (125), 2) := by decide +kernel
theorem gd_17_92 : decode gm_c17 92 = .ok (.if_icmp .ne (7), 3) := by decide +kernel
theorem gd_17_95 : decode gm_c17 95 = .ok (.iconst 1, 1) := by decide +kernel
theorem gd_17_96 : decode gm_c17 96 = .ok (.goto (4), 3) := by decide +kernel
theorem gd_17_99 : decode gm_c17 99 = .ok (.iconst 0, 1) := by decide +kernel
theorem gd_17_100 : decode gm_c17 100 = .ok (.istore_n 2, 1) := by decide +kernel
theorem gd_17_101 : decode gm_c17 101 = .ok (.iload_n 1, 1) := by decide +kernel
theorem gd_17_102 : decode gm_c17 102 = .ok (.bipush (40), 2) := by decide +kernel
theorem gd_17_104 : decode gm_c17 104 = .ok (.if_icmp .eq (9), 3) := by decide +kernel
theorem gd_17_107 : decode gm_c17 107 = .ok (.iload_n 1, 1) := by decide +kernel
theorem gd_17_108 : decode gm_c17 108 = .ok (.bipush (123), 2) := by decide +kernel
theorem gd_17_110 : decode gm_c17 110 = .ok (.if_icmp .ne (48), 3) := by decide +kernel
theorem gd_17_113 : decode gm_c17 113 = .ok (.iload_n 2, 1) := by decide +kernel
theorem gd_17_114 : decode gm_c17 114 = .ok (.ifCond .ne (44), 3) := by decide +kernel
theorem gd_17_117 : decode gm_c17 117 = .ok (.aload_n 0, 1) := by decide +kernel
theorem gd_17_118 : decode gm_c17 118 = .ok (.aload_n 0, 1) := by decide +kernel
theorem gd_17_119 : decode gm_c17 119 = .ok (.getfield 107, 3) := by decide +kernel
theorem gd_17_122 : decode gm_c17 122 = .ok (.bipush (6), 2) := by decide +kernel
theorem gd_17_124 : decode gm_c17 124 = .ok (.if_icmp .lt (7), 3) := by decide +kernel
theorem gd_17_127 : decode gm_c17 127 = .ok (.iconst 1, 1) := by decide +kernel
theorem gd_17_128 : decode gm_c17 128 = .ok (.goto (4), 3) := by decide +kernel
theorem gd_17_131 : decode gm_c17 131 = .ok (.iconst 0, 1) := by decide +kernel
theorem gd_17_132 : decode gm_c17 132 = .ok (.putfield 134, 3) := by decide +kernel
theorem gd_17_135 : decode gm_c17 135 = .ok (.aload_n 0, 1) := by decide +kernel
theorem gd_17_136 : decode gm_c17 136 = .ok (.dup, 1) := by decide +kernel
theorem gd_17_137 : decode gm_c17 137 = .ok (.getfield 117, 3) := by decide +kernel
theorem gd_17_140 : decode gm_c17 140 = .ok (.iconst 1, 1) := by decide +kernel
theorem gd_17_141 : decode gm_c17 141 = .ok (.iadd, 1) := by decide +kernel
theorem gd_17_142 : decode gm_c17 142 = .ok (.putfield 117, 3) := by decide +kernel
theorem gd_17_145 : decode gm_c17 145 = .ok (.aload_n 0, 1) := by decide +kernel
theorem gd_17_146 : decode gm_c17 146 = .ok (.getfield 134, 3) := by decide +kernel
theorem gd_17_149 : decode gm_c17 149 = .ok (.ifCond .ne (8), 3) := by decide +kernel
theorem gd_17_152 : decode gm_c17 152 = .ok (.aload_n 0, 1) := by decide +kernel
theorem gd_17_153 : decode gm_c17 153 = .ok (.iload_n 1, 1) := by decide +kernel
theorem gd_17_154 : decode gm_c17 154 = .ok (.invokevirtual 138, 3) := by decide +kernel
theorem gd_17_157 : decode gm_c17 157 = .ok (.return_, 1) := by decide +kernel
theorem gd_17_158 : decode gm_c17 158 = .ok (.aload_n 0, 1) := by decide +kernel
theorem gd_17_159 : decode gm_c17 159 = .ok (.invokevirtual 141, 3) := by decide +kernel
theorem gd_17_162 : decode gm_c17 162 = .ok (.istore_n 3, 1) := by decide +kernel
theorem gd_17_163 : decode gm_c17 163 = .ok (.aload_n 0, 1) := by decide +kernel
theorem gd_17_164 : decode gm_c17 164 = .ok (.iload_n 3, 1) := by decide +kernel
theorem gd_17_165 : decode gm_c17 165 = .ok (.ifCond .ge (7), 3) := by decide +kernel
theorem gd_17_168 : decode gm_c17 168 = .ok (.iconst 1, 1) := by decide +kernel
theorem gd_17_169 : decode gm_c17 169 = .ok (.goto (4), 3) := by decide +kernel
theorem gd_17_172 : decode gm_c17 172 = .ok (.iconst 0, 1) := by decide +kernel
theorem gd_17_173 : decode gm_c17 173 = .ok (.putfield 134, 3) := by decide +kernel
theorem gd_17_176 : decode gm_c17 176 = .ok (.aload_n 0, 1) := by decide +kernel
theorem gd_17_177 : decode gm_c17 177 = .ok (.getfield 134, 3) := by decide +kernel
theorem gd_17_180 : decode gm_c17 180 = .ok (.ifCond .eq (4), 3) := by decide +kernel
theorem gd_17_183 : decode gm_c17 183 = .ok (.return_, 1) := by decide +kernel
theorem gd_17_184 : decode gm_c17 184 = .ok (.aload_n 0, 1) := by decide +kernel
theorem gd_17_185 : decode gm_c17 185 = .ok (.iload_n 3, 1) := by decide +kernel
theorem gd_17_186 : decode gm_c17 186 = .ok (.invokevirtual 130, 3) := by decide +kernel
theorem gd_17_189 : decode gm_c17 189 = .ok (.aload_n 0, 1) := by decide +kernel
theorem gd_17_190 : decode gm_c17 190 = .ok (.invokevirtual 145, 3) := by decide +kernel
theorem gd_17_193 : decode gm_c17 193 = .ok (.aload_n 0, 1) := by decide +kernel
theorem gd_17_194 : decode gm_c17 194 = .ok (.aload_n 0, 1) := by decide +kernel
theorem gd_17_195 : decode gm_c17 195 = .ok (.getfield 117, 3) := by decide +kernel
theorem gd_17_198 : decode gm_c17 198 = .ok (.invokevirtual 120, 3) := by decide +kernel
theorem gd_17_201 : decode gm_c17 201 = .ok (.bipush (47), 2) := by decide +kernel
theorem gd_17_203 : decode gm_c17 203 = .ok (.if_icmp .ne (37), 3) := by decide +kernel
theorem gd_17_206 : decode gm_c17 206 = .ok (.aload_n 0, 1) := by decide +kernel
theorem gd_17_207 : decode gm_c17 207 = .ok (.dup, 1) := by decide +kernel
theorem gd_17_208 : decode gm_c17 208 = .ok (.getfield 117, 3) := by decide +kernel
theorem gd_17_211 : decode gm_c17 211 = .ok (.iconst 1, 1) := by decide +kernel
theorem gd_17_212 : decode gm_c17 212 = .ok (.iadd, 1) := by decide +kernel
theorem gd_17_213 : decode gm_c17 213 = .ok (.putfield 117, 3) := by decide +kernel
theorem gd_17_216 : decode gm_c17 216 = .ok (.aload_n 0, 1) := by decide +kernel
theorem gd_17_217 : decode gm_c17 217 = .ok (.invokevirtual 114, 3) := by decide +kernel
theorem gd_17_220 : decode gm_c17 220 = .ok (.aload_n 0, 1) := by decide +kernel
theorem gd_17_221 : decode gm_c17 221 = .ok (.aload_n 0, 1) := by decide +kernel
theorem gd_17_222 : decode gm_c17 222 = .ok (.getfield 117, 3) := by decide +kernel
theorem gd_17_225 : decode gm_c17 225 = .ok (.aload_n 0, 1) := by decide +kernel
theorem gd_17_226 : decode gm_c17 226 = .ok (.getfield 97, 3) := by decide +kernel
theorem gd_17_229 : decode gm_c17 229 = .ok (.if_icmp .lt (7), 3) := by decide +kernel
theorem gd_17_232 : decode gm_c17 232 = .ok (.iconst 1, 1) := by decide +kernel
theorem gd_17_233 : decode gm_c17 233 = .ok (.goto (4), 3) := by decide +kernel
theorem gd_17_236 : decode gm_c17 236 = .ok (.iconst 0, 1) := by decide +kernel
theorem gd_17_237 : decode gm_c17 237 = .ok (.putfield 134, 3) := by decide +kernel
theorem gd_17_240 : decode gm_c17 240 = .ok (.return_, 1) := by decide +kernel
theorem gd_18_0 : decode gm_c18 0 = .ok (.aload_n 0, 1) := by decide +kernel
theorem gd_18_1 : decode gm_c18 1 = .ok (.iconst 0, 1) := by decide +kernel
theorem gd_18_2 : decode gm_c18 2 = .ok (.invokevirtual 120, 3) := by decide +kernel
theorem gd_18_5 : decode gm_c18 5 = .ok (.bipush (65), 2) := by decide +kernel
theorem gd_18_7 : decode gm_c18 7 = .ok (.if_icmp .lt (31), 3) := by decide +kernel
theorem gd_18_10 : decode gm_c18 10 = .ok (.aload_n 0, 1) := by decide +kernel
theorem gd_18_11 : decode gm_c18 11 = .ok (.iconst 0, 1) := by decide +kernel
theorem gd_18_12 : decode gm_c18 12 = .ok (.invokevirtual 120, 3) := by decide +kernel
theorem gd_18_15 : decode gm_c18 15 = .ok (.bipush (68), 2) := by decide +kernel
theorem gd_18_17 : decode gm_c18 17 = .ok (.if_icmp .gt (21), 3) := by decide +kernel
theorem gd_18_20 : decode gm_c18 20 = .ok (.aload_n 0, 1) := by decide +kernel
theorem gd_18_21 : decode gm_c18 21 = .ok (.iconst 1, 1) := by decide +kernel
theorem gd_18_22 : decode gm_c18 22 = .ok (.invokevirtual 120, 3) := by decide +kernel
theorem gd_18_25 : decode gm_c18 25 = .ok (.bipush (61), 2) := by decide +kernel
theorem gd_18_27 : decode gm_c18 27 = .ok (.if_icmp .ne (11), 3) := by decide +kernel
theorem gd_18_30 : decode gm_c18 30 = .ok (.aload_n 0, 1) := by decide +kernel
theorem gd_18_31 : decode gm_c18 31 = .ok (.getfield 97, 3) := by decide +kernel
theorem gd_18_34 : decode gm_c18 34 = .ok (.iconst 3, 1) := by decide +kernel
theorem gd_18_35 : decode gm_c18 35 = .ok (.if_icmp .ge (5), 3) := by decide +kernel
theorem gd_18_38 : decode gm_c18 38 = .ok (.iconst 0, 1) := by decide +kernel
theorem gd_18_39 : decode gm_c18 39 = .ok (.ireturn, 1) := by decide +kernel
theorem gd_18_40 : decode gm_c18 40 = .ok (.aload_n 0, 1) := by decide +kernel
theorem gd_18_41 : decode gm_c18 41 = .ok (.iconst 2, 1) := by decide +kernel
theorem gd_18_42 : decode gm_c18 42 = .ok (.putfield 117, 3) := by decide +kernel
theorem gd_18_45 : decode gm_c18 45 = .ok (.aload_n 0, 1) := by decide +kernel
theorem gd_18_46 : decode gm_c18 46 = .ok (.iconst 0, 1) := by decide +kernel
theorem gd_18_47 : decode gm_c18 47 = .ok (.putfield 134, 3) := by decide +kernel
theorem gd_18_50 : decode gm_c18 50 = .ok (.aload_n 0, 1) := by decide +kernel
theorem gd_18_51 : decode gm_c18 51 = .ok (.getfield 26, 3) := by decide +kernel
theorem gd_18_54 : decode gm_c18 54 = .ok (.iconst 4, 1) := by decide +kernel
theorem gd_18_55 : decode gm_c18 55 = .ok (.iconst 0, 1) := by decide +kernel
theorem gd_18_56 : decode gm_c18 56 = .ok (.iastore, 1) := by decide +kernel
theorem gd_18_57 : decode gm_c18 57 = .ok (.aload_n 0, 1) := by decide +kernel
theorem gd_18_58 : decode gm_c18 58 = .ok (.iconst (-1), 1) := by decide +kernel
theorem gd_18_59 : decode gm_c18 59 = .ok (.putfield 107, 3) := by decide +kernel
theorem gd_18_62 : decode gm_c18 62 = .ok (.aload_n 0, 1) := by decide +kernel
theorem gd_18_63 : decode gm_c18 63 = .ok (.iconst 0, 1) := by decide +kernel
theorem gd_18_64 : decode gm_c18 64 = .ok (.invokevirtual 138, 3) := by decide +kernel
theorem gd_18_67 : decode gm_c18 67 = .ok (.aload_n 0, 1) := by decide +kernel
theorem gd_18_68 : decode gm_c18 68 = .ok (.getfield 134, 3) := by decide +kernel
theorem gd_18_71 : decode gm_c18 71 = .ok (.ifCond .ne (21), 3) := by decide +kernel
theorem gd_18_74 : decode gm_c18 74 = .ok (.aload_n 0, 1) := by decide +kernel
theorem gd_18_75 : decode gm_c18 75 = .ok (.getfield 117, 3) := by decide +kernel
theorem gd_18_78 : decode gm_c18 78 = .ok (.aload_n 0, 1) := by decide +kernel
theorem gd_18_79 : decode gm_c18 79 = .ok (.getfield 97, 3) := by decide +kernel
theorem gd_18_82 : decode gm_c18 82 = .ok (.if_icmp .ge (10), 3) := by decide +kernel
theorem gd_18_85 : decode gm_c18 85 = .ok (.aload_n 0, 1) := by decide +kernel
theorem gd_18_86 : decode gm_c18 86 = .ok (.invokevirtual 148, 3) := by decide +kernel
theorem gd_18_89 : decode gm_c18 89 = .ok (.goto (-22), 3) := by decide +kernel
theorem gd_18_92 : decode gm_c18 92 = .ok (.aload_n 0, 1) := by decide +kernel
theorem gd_18_93 : decode gm_c18 93 = .ok (.getfield 134, 3) := by decide +kernel
theorem gd_18_96 : decode gm_c18 96 = .ok (.ifCond .ne (28), 3) := by decide +kernel
theorem gd_18_99 : decode gm_c18 99 = .ok (.aload_n 0, 1) := by decide +kernel
theorem gd_18_100 : decode gm_c18 100 = .ok (.getfield 107, 3) := by decide +kernel
theorem gd_18_103 : decode gm_c18 103 = .ok (.ifCond .ne (21), 3) := by decide +kernel
theorem gd_18_106 : decode gm_c18 106 = .ok (.aload_n 0, 1) := by decide +kernel
theorem gd_18_107 : decode gm_c18 107 = .ok (.getfield 32, 3) := by decide +kernel
theorem gd_18_110 : decode gm_c18 110 = .ok (.aload_n 0, 1) := by decide +kernel
theorem gd_18_111 : decode gm_c18 111 = .ok (.getfield 56, 3) := by decide +kernel
theorem gd_18_114 : decode gm_c18 114 = .ok (.iconst 0, 1) := by decide +kernel
theorem gd_18_115 : decode gm_c18 115 = .ok (.iaload, 1) := by decide +kernel
theorem gd_18_116 : decode gm_c18 116 = .ok (.iaload, 1) := by decide +kernel
theorem gd_18_117 : decode gm_c18 117 = .ok (.ifCond .lt (7), 3) := by decide +kernel
theorem gd_18_120 : decode gm_c18 120 = .ok (.iconst 1, 1) := by decide +kernel
theorem gd_18_121 : decode gm_c18 121 = .ok (.goto (4), 3) := by decide +kernel
theorem gd_18_124 : decode gm_c18 124 = .ok (.iconst 0, 1) := by decide +kernel
theorem gd_18_125 : decode gm_c18 125 = .ok (.ireturn, 1) := by decide +kernel
theorem gd_19_0 : decode gm_c19 0 = .ok (.aload_n 0, 1) := by decide +kernel
theorem gd_19_1 : decode gm_c19 1 = .ok (.aload_n 0, 1) := by decide +kernel
theorem gd_19_2 : decode gm_c19 2 = .ok (.invokevirtual 151, 3) := by decide +kernel
theorem gd_19_5 : decode gm_c19 5 = .ok (.ifCond .eq (7), 3) := by decide +kernel
theorem gd_19_8 : decode gm_c19 8 = .ok (.iconst 0, 1) := by decide +kernel
theorem gd_19_9 : decode gm_c19 9 = .ok (.goto (4), 3) := by decide +kernel
theorem gd_19_12 : decode gm_c19 12 = .ok (.iconst 1, 1) := by decide +kernel
theorem gd_19_13 : decode gm_c19 13 = .ok (.putfield 90, 3) := by decide +kernel
theorem gd_19_16 : decode gm_c19 16 = .ok (.aload_n 0, 1) := by decide +kernel
theorem gd_19_17 : decode gm_c19 17 = .ok (.getfield 7, 3) := by decide +kernel
theorem gd_19_20 : decode gm_c19 20 = .ok (.iconst 0, 1) := by decide +kernel
theorem gd_19_21 : decode gm_c19 21 = .ok (.iaload, 1) := by decide +kernel
theorem gd_19_22 : decode gm_c19 22 = .ok (.bipush (65), 2) := by decide +kernel
theorem gd_19_24 : decode gm_c19 24 = .ok (.isub, 1) := by decide +kernel
theorem gd_19_25 : decode gm_c19 25 = .ok (.istore_n 1, 1) := by decide +kernel
theorem gd_19_26 : decode gm_c19 26 = .ok (.aload_n 0, 1) := by decide +kernel
theorem gd_19_27 : decode gm_c19 27 = .ok (.getfield 90, 3) := by decide +kernel
theorem gd_19_30 : decode gm_c19 30 = .ok (.ifCond .ne (221), 3) := by decide +kernel
theorem gd_19_33 : decode gm_c19 33 = .ok (.bipush (40), 2) := by decide +kernel
theorem gd_19_35 : decode gm_c19 35 = .ok (.iload_n 1, 1) := by decide +kernel
theorem gd_19_36 : decode gm_c19 36 = .ok (.imul, 1) := by decide +kernel
theorem gd_19_37 : decode gm_c19 37 = .ok (.sipush (160), 3) := by decide +kernel
theorem gd_19_40 : decode gm_c19 40 = .ok (.isub, 1) := by decide +kernel
theorem gd_19_41 : decode gm_c19 41 = .ok (.istore_n 2, 1) := by decide +kernel
theorem gd_19_42 : decode gm_c19 42 = .ok (.aload_n 0, 1) := by decide +kernel
theorem gd_19_43 : decode gm_c19 43 = .ok (.getfield 26, 3) := by decide +kernel
theorem gd_19_46 : decode gm_c19 46 = .ok (.iload_n 1, 1) := by decide +kernel
theorem gd_19_47 : decode gm_c19 47 = .ok (.aload_n 0, 1) := by decide +kernel
theorem gd_19_48 : decode gm_c19 48 = .ok (.getfield 26, 3) := by decide +kernel
theorem gd_19_51 : decode gm_c19 51 = .ok (.iconst 4, 1) := by decide +kernel
theorem gd_19_52 : decode gm_c19 52 = .ok (.iaload, 1) := by decide +kernel
theorem gd_19_53 : decode gm_c19 53 = .ok (.iastore, 1) := by decide +kernel
theorem gd_19_54 : decode gm_c19 54 = .ok (.sipush (160), 3) := by decide +kernel
theorem gd_19_57 : decode gm_c19 57 = .ok (.istore_n 3, 1) := by decide +kernel
theorem gd_19_58 : decode gm_c19 58 = .ok (.iload_n 3, 1) := by decide +kernel
theorem gd_19_59 : decode gm_c19 59 = .ok (.sipush (160), 3) := by decide +kernel
theorem gd_19_62 : decode gm_c19 62 = .ok (.aload_n 0, 1) := by decide +kernel
theorem gd_19_63 : decode gm_c19 63 = .ok (.getfield 26, 3) := by decide +kernel
theorem gd_19_66 : decode gm_c19 66 = .ok (.iconst 4, 1) := by decide +kernel
theorem gd_19_67 : decode gm_c19 67 = .ok (.iaload, 1) := by decide +kernel
theorem gd_19_68 : decode gm_c19 68 = .ok (.iadd, 1) := by decide +kernel
theorem gd_19_69 : decode gm_c19 69 = .ok (.if_icmp .ge (132), 3) := by decide +kernel
theorem gd_19_72 : decode gm_c19 72 = .ok (.aload_n 0, 1) := by decide +kernel
theorem gd_19_73 : decode gm_c19 73 = .ok (.getfield 29, 3) := by decide +kernel
theorem gd_19_76 : decode gm_c19 76 = .ok (.iload_n 3, 1) := by decide +kernel
theorem gd_19_77 : decode gm_c19 77 = .ok (.iaload, 1) := by decide +kernel
theorem gd_19_78 : decode gm_c19 78 = .ok (.ifCond .eq (23), 3) := by decide +kernel
theorem gd_19_81 : decode gm_c19 81 = .ok (.aload_n 0, 1) := by decide +kernel
theorem gd_19_82 : decode gm_c19 82 = .ok (.getfield 29, 3) := by decide +kernel
theorem gd_19_85 : decode gm_c19 85 = .ok (.iload_n 3, 1) := by decide +kernel
theorem gd_19_86 : decode gm_c19 86 = .ok (.iaload, 1) := by decide +kernel
theorem gd_19_87 : decode gm_c19 87 = .ok (.iconst 1, 1) := by decide +kernel
theorem gd_19_88 : decode gm_c19 88 = .ok (.if_icmp .eq (13), 3) := by decide +kernel
theorem gd_19_91 : decode gm_c19 91 = .ok (.aload_n 0, 1) := by decide +kernel
theorem gd_19_92 : decode gm_c19 92 = .ok (.getfield 29, 3) := by decide +kernel
theorem gd_19_95 : decode gm_c19 95 = .ok (.iload_n 3, 1) := by decide +kernel
theorem gd_19_96 : decode gm_c19 96 = .ok (.iaload, 1) := by decide +kernel
theorem gd_19_97 : decode gm_c19 97 = .ok (.iconst 2, 1) := by decide +kernel
theorem gd_19_98 : decode gm_c19 98 = .ok (.if_icmp .ne (7), 3) := by decide +kernel
theorem gd_19_101 : decode gm_c19 101 = .ok (.iconst 1, 1) := by decide +kernel
theorem gd_19_102 : decode gm_c19 102 = .ok (.goto (4), 3) := by decide +kernel
theorem gd_19_105 : decode gm_c19 105 = .ok (.iconst 0, 1) := by decide +kernel
theorem gd_19_106 : decode gm_c19 106 = .ok (.istore 4, 2) := by decide +kernel
theorem gd_19_108 : decode gm_c19 108 = .ok (.aload_n 0, 1) := by decide +kernel
theorem gd_19_109 : decode gm_c19 109 = .ok (.getfield 29, 3) := by decide +kernel
theorem gd_19_112 : decode gm_c19 112 = .ok (.iload_n 3, 1) := by decide +kernel
theorem gd_19_113 : decode gm_c19 113 = .ok (.iload_n 2, 1) := by decide +kernel
theorem gd_19_114 : decode gm_c19 114 = .ok (.iadd, 1) := by decide +kernel
theorem gd_19_115 : decode gm_c19 115 = .ok (.aload_n 0, 1) := by decide +kernel
theorem gd_19_116 : decode gm_c19 116 = .ok (.getfield 29, 3) := by decide +kernel
theorem gd_19_119 : decode gm_c19 119 = .ok (.iload_n 3, 1) := by decide +kernel
theorem gd_19_120 : decode gm_c19 120 = .ok (.iaload, 1) := by decide +kernel
theorem gd_19_121 : decode gm_c19 121 = .ok (.iastore, 1) := by decide +kernel
theorem gd_19_122 : decode gm_c19 122 = .ok (.aload_n 0, 1) := by decide +kernel
theorem gd_19_123 : decode gm_c19 123 = .ok (.getfield 32, 3) := by decide +kernel
theorem gd_19_126 : decode gm_c19 126 = .ok (.iload_n 3, 1) := by decide +kernel
theorem gd_19_127 : decode gm_c19 127 = .ok (.iload_n 2, 1) := by decide +kernel
theorem gd_19_128 : decode gm_c19 128 = .ok (.iadd, 1) := by decide +kernel
theorem gd_19_129 : decode gm_c19 129 = .ok (.iload 4, 2) := by decide +kernel
theorem gd_19_131 : decode gm_c19 131 = .ok (.ifCond .eq (12), 3) := by decide +kernel
theorem gd_19_134 : decode gm_c19 134 = .ok (.aload_n 0, 1) := by decide +kernel
theorem gd_19_135 : decode gm_c19 135 = .ok (.getfield 32, 3) := by decide +kernel
theorem gd_19_138 : decode gm_c19 138 = .ok (.iload_n 3, 1) := by decide +kernel
theorem gd_19_139 : decode gm_c19 139 = .ok (.iaload, 1) := by decide +kernel
theorem gd_19_140 : decode gm_c19 140 = .ok (.goto (11), 3) := by decide +kernel
theorem gd_19_143 : decode gm_c19 143 = .ok (.aload_n 0, 1) := by decide +kernel
theorem gd_19_144 : decode gm_c19 144 = .ok (.getfield 32, 3) := by decide +kernel
theorem gd_19_147 : decode gm_c19 147 = .ok (.iload_n 3, 1) := by decide +kernel
theorem gd_19_148 : decode gm_c19 148 = .ok (.iaload, 1) := by decide +kernel
theorem gd_19_149 : decode gm_c19 149 = .ok (.iload_n 2, 1) := by decide +kernel
theorem gd_19_150 : decode gm_c19 150 = .ok (.iadd, 1) := by decide +kernel
theorem gd_19_151 : decode gm_c19 151 = .ok (.iastore, 1) := by decide +kernel
theorem gd_19_152 : decode gm_c19 152 = .ok (.aload_n 0, 1) := by decide +kernel
theorem gd_19_153 : decode gm_c19 153 = .ok (.getfield 35, 3) := by decide +kernel
theorem gd_19_156 : decode gm_c19 156 = .ok (.iload_n 3, 1) := by decide +kernel
theorem gd_19_157 : decode gm_c19 157 = .ok (.iload_n 2, 1) := by decide +kernel
theorem gd_19_158 : decode gm_c19 158 = .ok (.iadd, 1) := by decide +kernel
theorem gd_19_159 : decode gm_c19 159 = .ok (.aload_n 0, 1) := by decide +kernel
theorem gd_19_160 : decode gm_c19 160 = .ok (.getfield 35, 3) := by decide +kernel
theorem gd_19_163 : decode gm_c19 163 = .ok (.iload_n 3, 1) := by decide +kernel
theorem gd_19_164 : decode gm_c19 164 = .ok (.iaload, 1) := by decide +kernel
theorem gd_19_165 : decode gm_c19 165 = .ok (.iastore, 1) := by decide +kernel
theorem gd_19_166 : decode gm_c19 166 = .ok (.aload_n 0, 1) := by decide +kernel
theorem gd_19_167 : decode gm_c19 167 = .ok (.getfield 38, 3) := by decide +kernel
theorem gd_19_170 : decode gm_c19 170 = .ok (.iload_n 3, 1) := by decide +kernel
theorem gd_19_171 : decode gm_c19 171 = .ok (.iload_n 2, 1) := by decide +kernel
theorem gd_19_172 : decode gm_c19 172 = .ok (.iadd, 1) := by decide +kernel
theorem gd_19_173 : decode gm_c19 173 = .ok (.aload_n 0, 1) := by decide +kernel
theorem gd_19_174 : decode gm_c19 174 = .ok (.getfield 38, 3) := by decide +kernel
theorem gd_19_177 : decode gm_c19 177 = .ok (.iload_n 3, 1) := by decide +kernel
theorem gd_19_178 : decode gm_c19 178 = .ok (.iaload, 1) := by decide +kernel
theorem gd_19_179 : decode gm_c19 179 = .ok (.ifCond .ge (7), 3) := by decide +kernel
theorem gd_19_182 : decode gm_c19 182 = .ok (.iconst (-1), 1) := by decide +kernel
theorem gd_19_183 : decode gm_c19 183 = .ok (.goto (11), 3) := by decide +kernel
theorem gd_19_186 : decode gm_c19 186 = .ok (.aload_n 0, 1) := by decide +kernel
theorem gd_19_187 : decode gm_c19 187 = .ok (.getfield 38, 3) := by decide +kernel
theorem gd_19_190 : decode gm_c19 190 = .ok (.iload_n 3, 1) := by decide +kernel
theorem gd_19_191 : decode gm_c19 191 = .ok (.iaload, 1) := by decide +kernel
theorem gd_19_192 : decode gm_c19 192 = .ok (.iload_n 2, 1) := by decide +kernel
theorem gd_19_193 : decode gm_c19 193 = .ok (.iadd, 1) := by decide +kernel
theorem gd_19_194 : decode gm_c19 194 = .ok (.iastore, 1) := by decide +kernel
theorem gd_19_195 : decode gm_c19 195 = .ok (.iinc 3 (1), 3) := by decide +kernel
theorem gd_19_198 : decode gm_c19 198 = .ok (.goto (-140), 3) := by decide +kernel
theorem gd_19_201 : decode gm_c19 201 = .ok (.aload_n 0, 1) := by decide +kernel
theorem gd_19_202 : decode gm_c19 202 = .ok (.getfield 16, 3) := by decide +kernel
theorem gd_19_205 : decode gm_c19 205 = .ok (.iload_n 1, 1) := by decide +kernel
theorem gd_19_206 : decode gm_c19 206 = .ok (.iconst 1, 1) := by decide +kernel
theorem gd_19_207 : decode gm_c19 207 = .ok (.bastore, 1) := by decide +kernel
theorem gd_19_208 : decode gm_c19 208 = .ok (.aload_n 0, 1) := by decide +kernel
theorem gd_19_209 : decode gm_c19 209 = .ok (.getfield 23, 3) := by decide +kernel
theorem gd_19_212 : decode gm_c19 212 = .ok (.iload_n 1, 1) := by decide +kernel
theorem gd_19_213 : decode gm_c19 213 = .ok (.aload_n 0, 1) := by decide +kernel
theorem gd_19_214 : decode gm_c19 214 = .ok (.getfield 97, 3) := by decide +kernel
theorem gd_19_217 : decode gm_c19 217 = .ok (.iastore, 1) := by decide +kernel
theorem gd_19_218 : decode gm_c19 218 = .ok (.iconst 0, 1) := by decide +kernel
theorem gd_19_219 : decode gm_c19 219 = .ok (.istore_n 3, 1) := by decide +kernel
theorem gd_19_220 : decode gm_c19 220 = .ok (.iload_n 3, 1) := by decide +kernel
theorem gd_19_221 : decode gm_c19 221 = .ok (.aload_n 0, 1) := by decide +kernel
theorem gd_19_222 : decode gm_c19 222 = .ok (.getfield 97, 3) := by decide +kernel
theorem gd_19_225 : decode gm_c19 225 = .ok (.if_icmp .ge (26), 3) := by decide +kernel
theorem gd_19_228 : decode gm_c19 228 = .ok (.aload_n 0, 1) := by decide +kernel
theorem gd_19_229 : decode gm_c19 229 = .ok (.getfield 20, 3) := by decide +kernel
theorem gd_19_232 : decode gm_c19 232 = .ok (.bipush (20), 2) := by decide +kernel
theorem gd_19_234 : decode gm_c19 234 = .ok (.iload_n 1, 1) := by decide +kernel
theorem gd_19_235 : decode gm_c19 235 = .ok (.imul, 1) := by decide +kernel
theorem gd_19_236 : decode gm_c19 236 = .ok (.iload_n 3, 1) := by decide +kernel
theorem gd_19_237 : decode gm_c19 237 = .ok (.iadd, 1) := by decide +kernel
theorem gd_19_238 : decode gm_c19 238 = .ok (.aload_n 0, 1) := by decide +kernel
theorem gd_19_239 : decode gm_c19 239 = .ok (.getfield 7, 3) := by decide +kernel
theorem gd_19_242 : decode gm_c19 242 = .ok (.iload_n 3, 1) := by decide +kernel
theorem gd_19_243 : decode gm_c19 243 = .ok (.iaload, 1) := by decide +kernel
theorem gd_19_244 : decode gm_c19 244 = .ok (.iastore, 1) := by decide +kernel
theorem gd_19_245 : decode gm_c19 245 = .ok (.iinc 3 (1), 3) := by decide +kernel
theorem gd_19_248 : decode gm_c19 248 = .ok (.goto (-28), 3) := by decide +kernel
theorem gd_19_251 : decode gm_c19 251 = .ok (.aload_n 0, 1) := by decide +kernel
theorem gd_19_252 : decode gm_c19 252 = .ok (.iconst 0, 1) := by decide +kernel
theorem gd_19_253 : decode gm_c19 253 = .ok (.putfield 97, 3) := by decide +kernel
theorem gd_19_256 : decode gm_c19 256 = .ok (.aload_n 0, 1) := by decide +kernel
theorem gd_19_257 : decode gm_c19 257 = .ok (.getfield 90, 3) := by decide +kernel
theorem gd_19_260 : decode gm_c19 260 = .ok (.ifCond .ne (7), 3) := by decide +kernel
theorem gd_19_263 : decode gm_c19 263 = .ok (.iload_n 1, 1) := by decide +kernel
theorem gd_19_264 : decode gm_c19 264 = .ok (.goto (4), 3) := by decide +kernel
theorem gd_19_267 : decode gm_c19 267 = .ok (.iconst 0, 1) := by decide +kernel
theorem gd_19_268 : decode gm_c19 268 = .ok (.ireturn, 1) := by decide +kernel
theorem gd_20_0 : decode gm_c20 0 = .ok (.aload_n 0, 1) := by decide +kernel
theorem gd_20_1 : decode gm_c20 1 = .ok (.iload_n 1, 1) := by decide +kernel
theorem gd_20_2 : decode gm_c20 2 = .ok (.invokestatic 155, 3) := by decide +kernel
theorem gd_20_5 : decode gm_c20 5 = .ok (.ifCond .eq (7), 3) := by decide +kernel
theorem gd_20_8 : decode gm_c20 8 = .ok (.iconst 0, 1) := by decide +kernel
theorem gd_20_9 : decode gm_c20 9 = .ok (.goto (4), 3) := by decide +kernel
theorem gd_20_12 : decode gm_c20 12 = .ok (.iconst 1, 1) := by decide +kernel
theorem gd_20_13 : decode gm_c20 13 = .ok (.putfield 90, 3) := by decide +kernel
theorem gd_20_16 : decode gm_c20 16 = .ok (.aload_n 0, 1) := by decide +kernel
theorem gd_20_17 : decode gm_c20 17 = .ok (.getfield 90, 3) := by decide +kernel
theorem gd_20_20 : decode gm_c20 20 = .ok (.ifCond .gt (12), 3) := by decide +kernel
theorem gd_20_23 : decode gm_c20 23 = .ok (.aload_n 0, 1) := by decide +kernel
theorem gd_20_24 : decode gm_c20 24 = .ok (.getfield 16, 3) := by decide +kernel
theorem gd_20_27 : decode gm_c20 27 = .ok (.iload_n 1, 1) := by decide +kernel
theorem gd_20_28 : decode gm_c20 28 = .ok (.baload, 1) := by decide +kernel
theorem gd_20_29 : decode gm_c20 29 = .ok (.ifCond .ne (5), 3) := by decide +kernel
theorem gd_20_32 : decode gm_c20 32 = .ok (.iconst 0, 1) := by decide +kernel
theorem gd_20_33 : decode gm_c20 33 = .ok (.ireturn, 1) := by decide +kernel
theorem gd_20_34 : decode gm_c20 34 = .ok (.aload_n 0, 1) := by decide +kernel
theorem gd_20_35 : decode gm_c20 35 = .ok (.getfield 16, 3) := by decide +kernel
theorem gd_20_38 : decode gm_c20 38 = .ok (.iload_n 1, 1) := by decide +kernel
theorem gd_20_39 : decode gm_c20 39 = .ok (.iconst 0, 1) := by decide +kernel
theorem gd_20_40 : decode gm_c20 40 = .ok (.bastore, 1) := by decide +kernel
theorem gd_20_41 : decode gm_c20 41 = .ok (.iconst 1, 1) := by decide +kernel
theorem gd_20_42 : decode gm_c20 42 = .ok (.ireturn, 1) := by decide +kernel
theorem gd_21_0 : decode gm_c21 0 = .ok (.aload_n 0, 1) := by decide +kernel
theorem gd_21_1 : decode gm_c21 1 = .ok (.iconst 0, 1) := by decide +kernel
theorem gd_21_2 : decode gm_c21 2 = .ok (.putfield 90, 3) := by decide +kernel
theorem gd_21_5 : decode gm_c21 5 = .ok (.iload_n 1, 1) := by decide +kernel
theorem gd_21_6 : decode gm_c21 6 = .ok (.invokestatic 155, 3) := by decide +kernel
theorem gd_21_9 : decode gm_c21 9 = .ok (.ifCond .eq (41), 3) := by decide +kernel
theorem gd_21_12 : decode gm_c21 12 = .ok (.aload_n 0, 1) := by decide +kernel
theorem gd_21_13 : decode gm_c21 13 = .ok (.getfield 16, 3) := by decide +kernel
theorem gd_21_16 : decode gm_c21 16 = .ok (.iload_n 1, 1) := by decide +kernel
theorem gd_21_17 : decode gm_c21 17 = .ok (.baload, 1) := by decide +kernel
theorem gd_21_18 : decode gm_c21 18 = .ok (.ifCond .eq (32), 3) := by decide +kernel
theorem gd_21_21 : decode gm_c21 21 = .ok (.iload_n 2, 1) := by decide +kernel
theorem gd_21_22 : decode gm_c21 22 = .ok (.ifCond .lt (28), 3) := by decide +kernel
theorem gd_21_25 : decode gm_c21 25 = .ok (.iload_n 2, 1) := by decide +kernel
theorem gd_21_26 : decode gm_c21 26 = .ok (.aload_n 0, 1) := by decide +kernel
theorem gd_21_27 : decode gm_c21 27 = .ok (.getfield 23, 3) := by decide +kernel
theorem gd_21_30 : decode gm_c21 30 = .ok (.iload_n 1, 1) := by decide +kernel
theorem gd_21_31 : decode gm_c21 31 = .ok (.iaload, 1) := by decide +kernel
theorem gd_21_32 : decode gm_c21 32 = .ok (.if_icmp .ge (18), 3) := by decide +kernel
theorem gd_21_35 : decode gm_c21 35 = .ok (.aload_n 0, 1) := by decide +kernel
theorem gd_21_36 : decode gm_c21 36 = .ok (.getfield 20, 3) := by decide +kernel
theorem gd_21_39 : decode gm_c21 39 = .ok (.bipush (20), 2) := by decide +kernel
theorem gd_21_41 : decode gm_c21 41 = .ok (.iload_n 1, 1) := by decide +kernel
theorem gd_21_42 : decode gm_c21 42 = .ok (.imul, 1) := by decide +kernel
theorem gd_21_43 : decode gm_c21 43 = .ok (.iload_n 2, 1) := by decide +kernel
theorem gd_21_44 : decode gm_c21 44 = .ok (.iadd, 1) := by decide +kernel
theorem gd_21_45 : decode gm_c21 45 = .ok (.iaload, 1) := by decide +kernel
theorem gd_21_46 : decode gm_c21 46 = .ok (.i2c, 1) := by decide +kernel
theorem gd_21_47 : decode gm_c21 47 = .ok (.goto (4), 3) := by decide +kernel
theorem gd_21_50 : decode gm_c21 50 = .ok (.iconst 0, 1) := by decide +kernel
theorem gd_21_51 : decode gm_c21 51 = .ok (.ireturn, 1) := by decide +kernel
theorem gd_22_0 : decode gm_c22 0 = .ok (.iload_n 1, 1) := by decide +kernel
theorem gd_22_1 : decode gm_c22 1 = .ok (.sipush (160), 3) := by decide +kernel
theorem gd_22_4 : decode gm_c22 4 = .ok (.if_icmp .ge (35), 3) := by decide +kernel
theorem gd_22_7 : decode gm_c22 7 = .ok (.aload_n 0, 1) := by decide +kernel
theorem gd_22_8 : decode gm_c22 8 = .ok (.getfield 16, 3) := by decide +kernel
theorem gd_22_11 : decode gm_c22 11 = .ok (.iload_n 1, 1) := by decide +kernel
theorem gd_22_12 : decode gm_c22 12 = .ok (.bipush (40), 2) := by decide +kernel
theorem gd_22_14 : decode gm_c22 14 = .ok (.idiv, 1) := by decide +kernel
theorem gd_22_15 : decode gm_c22 15 = .ok (.baload, 1) := by decide +kernel
theorem gd_22_16 : decode gm_c22 16 = .ok (.ifCond .eq (23), 3) := by decide +kernel
theorem gd_22_19 : decode gm_c22 19 = .ok (.iload_n 1, 1) := by decide +kernel
theorem gd_22_20 : decode gm_c22 20 = .ok (.bipush (40), 2) := by decide +kernel
theorem gd_22_22 : decode gm_c22 22 = .ok (.irem, 1) := by decide +kernel
theorem gd_22_23 : decode gm_c22 23 = .ok (.aload_n 0, 1) := by decide +kernel
theorem gd_22_24 : decode gm_c22 24 = .ok (.getfield 26, 3) := by decide +kernel
theorem gd_22_27 : decode gm_c22 27 = .ok (.iload_n 1, 1) := by decide +kernel
theorem gd_22_28 : decode gm_c22 28 = .ok (.bipush (40), 2) := by decide +kernel
theorem gd_22_30 : decode gm_c22 30 = .ok (.idiv, 1) := by decide +kernel
theorem gd_22_31 : decode gm_c22 31 = .ok (.iaload, 1) := by decide +kernel
theorem gd_22_32 : decode gm_c22 32 = .ok (.if_icmp .ge (7), 3) := by decide +kernel
theorem gd_22_35 : decode gm_c22 35 = .ok (.iconst 1, 1) := by decide +kernel
theorem gd_22_36 : decode gm_c22 36 = .ok (.goto (4), 3) := by decide +kernel
theorem gd_22_39 : decode gm_c22 39 = .ok (.iconst 0, 1) := by decide +kernel
theorem gd_22_40 : decode gm_c22 40 = .ok (.ireturn, 1) := by decide +kernel
theorem gd_23_0 : decode gm_c23 0 = .ok (.aload_n 0, 1) := by decide +kernel
theorem gd_23_1 : decode gm_c23 1 = .ok (.getfield 29, 3) := by decide +kernel
theorem gd_23_4 : decode gm_c23 4 = .ok (.iload_n 1, 1) := by decide +kernel
theorem gd_23_5 : decode gm_c23 5 = .ok (.iaload, 1) := by decide +kernel
theorem gd_23_6 : decode gm_c23 6 = .ok (.istore_n 2, 1) := by decide +kernel
theorem gd_23_7 : decode gm_c23 7 = .ok (.iload_n 2, 1) := by decide +kernel
theorem gd_23_8 : decode gm_c23 8 = .ok (.ifCond .ne (5), 3) := by decide +kernel
theorem gd_23_11 : decode gm_c23 11 = .ok (.iconst 0, 1) := by decide +kernel
theorem gd_23_12 : decode gm_c23 12 = .ok (.ireturn, 1) := by decide +kernel
theorem gd_23_13 : decode gm_c23 13 = .ok (.iload_n 2, 1) := by decide +kernel
theorem gd_23_14 : decode gm_c23 14 = .ok (.iconst 1, 1) := by decide +kernel
theorem gd_23_15 : decode gm_c23 15 = .ok (.if_icmp .ne (40), 3) := by decide +kernel
theorem gd_23_18 : decode gm_c23 18 = .ok (.aload_n 0, 1) := by decide +kernel
theorem gd_23_19 : decode gm_c23 19 = .ok (.getfield 16, 3) := by decide +kernel
theorem gd_23_22 : decode gm_c23 22 = .ok (.aload_n 0, 1) := by decide +kernel
theorem gd_23_23 : decode gm_c23 23 = .ok (.getfield 32, 3) := by decide +kernel
theorem gd_23_26 : decode gm_c23 26 = .ok (.iload_n 1, 1) := by decide +kernel
theorem gd_23_27 : decode gm_c23 27 = .ok (.iaload, 1) := by decide +kernel
theorem gd_23_28 : decode gm_c23 28 = .ok (.baload, 1) := by decide +kernel
theorem gd_23_29 : decode gm_c23 29 = .ok (.ifCond .eq (24), 3) := by decide +kernel
theorem gd_23_32 : decode gm_c23 32 = .ok (.aload_n 0, 1) := by decide +kernel
theorem gd_23_33 : decode gm_c23 33 = .ok (.getfield 44, 3) := by decide +kernel
theorem gd_23_36 : decode gm_c23 36 = .ok (.bipush (40), 2) := by decide +kernel
theorem gd_23_38 : decode gm_c23 38 = .ok (.aload_n 0, 1) := by decide +kernel
theorem gd_23_39 : decode gm_c23 39 = .ok (.getfield 32, 3) := by decide +kernel
theorem gd_23_42 : decode gm_c23 42 = .ok (.iload_n 1, 1) := by decide +kernel
theorem gd_23_43 : decode gm_c23 43 = .ok (.iaload, 1) := by decide +kernel
theorem gd_23_44 : decode gm_c23 44 = .ok (.imul, 1) := by decide +kernel
theorem gd_23_45 : decode gm_c23 45 = .ok (.baload, 1) := by decide +kernel
theorem gd_23_46 : decode gm_c23 46 = .ok (.ifCond .eq (7), 3) := by decide +kernel
theorem gd_23_49 : decode gm_c23 49 = .ok (.iconst 1, 1) := by decide +kernel
theorem gd_23_50 : decode gm_c23 50 = .ok (.goto (4), 3) := by decide +kernel
theorem gd_23_53 : decode gm_c23 53 = .ok (.iconst 0, 1) := by decide +kernel
theorem gd_23_54 : decode gm_c23 54 = .ok (.ireturn, 1) := by decide +kernel
theorem gd_23_55 : decode gm_c23 55 = .ok (.iload_n 2, 1) := by decide +kernel
theorem gd_23_56 : decode gm_c23 56 = .ok (.iconst 3, 1) := by decide +kernel
theorem gd_23_57 : decode gm_c23 57 = .ok (.if_icmp .eq (8), 3) := by decide +kernel
theorem gd_23_60 : decode gm_c23 60 = .ok (.iload_n 2, 1) := by decide +kernel
theorem gd_23_61 : decode gm_c23 61 = .ok (.iconst 5, 1) := by decide +kernel
theorem gd_23_62 : decode gm_c23 62 = .ok (.if_icmp .ne (15), 3) := by decide +kernel
theorem gd_23_65 : decode gm_c23 65 = .ok (.aload_n 0, 1) := by decide +kernel
theorem gd_23_66 : decode gm_c23 66 = .ok (.getfield 44, 3) := by decide +kernel
theorem gd_23_69 : decode gm_c23 69 = .ok (.aload_n 0, 1) := by decide +kernel
theorem gd_23_70 : decode gm_c23 70 = .ok (.getfield 32, 3) := by decide +kernel
theorem gd_23_73 : decode gm_c23 73 = .ok (.iload_n 1, 1) := by decide +kernel
theorem gd_23_74 : decode gm_c23 74 = .ok (.iaload, 1) := by decide +kernel
theorem gd_23_75 : decode gm_c23 75 = .ok (.baload, 1) := by decide +kernel
theorem gd_23_76 : decode gm_c23 76 = .ok (.ireturn, 1) := by decide +kernel
theorem gd_23_77 : decode gm_c23 77 = .ok (.iload_n 2, 1) := by decide +kernel
theorem gd_23_78 : decode gm_c23 78 = .ok (.bipush (9), 2) := by decide +kernel
theorem gd_23_80 : decode gm_c23 80 = .ok (.if_icmp .ne (52), 3) := by decide +kernel
theorem gd_23_83 : decode gm_c23 83 = .ok (.iconst 1, 1) := by decide +kernel
theorem gd_23_84 : decode gm_c23 84 = .ok (.istore_n 3, 1) := by decide +kernel
theorem gd_23_85 : decode gm_c23 85 = .ok (.aload_n 0, 1) := by decide +kernel
theorem gd_23_86 : decode gm_c23 86 = .ok (.getfield 32, 3) := by decide +kernel
theorem gd_23_89 : decode gm_c23 89 = .ok (.iload_n 1, 1) := by decide +kernel
theorem gd_23_90 : decode gm_c23 90 = .ok (.iaload, 1) := by decide +kernel
theorem gd_23_91 : decode gm_c23 91 = .ok (.istore 4, 2) := by decide +kernel
theorem gd_23_93 : decode gm_c23 93 = .ok (.iload 4, 2) := by decide +kernel
theorem gd_23_95 : decode gm_c23 95 = .ok (.ifCond .lt (35), 3) := by decide +kernel
theorem gd_23_98 : decode gm_c23 98 = .ok (.iload_n 3, 1) := by decide +kernel
theorem gd_23_99 : decode gm_c23 99 = .ok (.ifCond .eq (17), 3) := by decide +kernel
theorem gd_23_102 : decode gm_c23 102 = .ok (.aload_n 0, 1) := by decide +kernel
theorem gd_23_103 : decode gm_c23 103 = .ok (.getfield 44, 3) := by decide +kernel
theorem gd_23_106 : decode gm_c23 106 = .ok (.iload 4, 2) := by decide +kernel
theorem gd_23_108 : decode gm_c23 108 = .ok (.baload, 1) := by decide +kernel
theorem gd_23_109 : decode gm_c23 109 = .ok (.ifCond .eq (7), 3) := by decide +kernel
theorem gd_23_112 : decode gm_c23 112 = .ok (.iconst 1, 1) := by decide +kernel
theorem gd_23_113 : decode gm_c23 113 = .ok (.goto (4), 3) := by decide +kernel
theorem gd_23_116 : decode gm_c23 116 = .ok (.iconst 0, 1) := by decide +kernel
theorem gd_23_117 : decode gm_c23 117 = .ok (.istore_n 3, 1) := by decide +kernel
theorem gd_23_118 : decode gm_c23 118 = .ok (.aload_n 0, 1) := by decide +kernel
theorem gd_23_119 : decode gm_c23 119 = .ok (.getfield 38, 3) := by decide +kernel
theorem gd_23_122 : decode gm_c23 122 = .ok (.iload 4, 2) := by decide +kernel
theorem gd_23_124 : decode gm_c23 124 = .ok (.iaload, 1) := by decide +kernel
theorem gd_23_125 : decode gm_c23 125 = .ok (.istore 4, 2) := by decide +kernel
theorem gd_23_127 : decode gm_c23 127 = .ok (.goto (-34), 3) := by decide +kernel
theorem gd_23_130 : decode gm_c23 130 = .ok (.iload_n 3, 1) := by decide +kernel
theorem gd_23_131 : decode gm_c23 131 = .ok (.ireturn, 1) := by decide +kernel
theorem gd_23_132 : decode gm_c23 132 = .ok (.iload_n 2, 1) := by decide +kernel
theorem gd_23_133 : decode gm_c23 133 = .ok (.bipush (10), 2) := by decide +kernel
theorem gd_23_135 : decode gm_c23 135 = .ok (.if_icmp .eq (7), 3) := by decide +kernel
theorem gd_23_138 : decode gm_c23 138 = .ok (.iconst 1, 1) := by decide +kernel
theorem gd_23_139 : decode gm_c23 139 = .ok (.goto (4), 3) := by decide +kernel
theorem gd_23_142 : decode gm_c23 142 = .ok (.iconst 0, 1) := by decide +kernel
theorem gd_23_143 : decode gm_c23 143 = .ok (.istore_n 3, 1) := by decide +kernel
theorem gd_23_144 : decode gm_c23 144 = .ok (.aload_n 0, 1) := by decide +kernel
theorem gd_23_145 : decode gm_c23 145 = .ok (.getfield 32, 3) := by decide +kernel
theorem gd_23_148 : decode gm_c23 148 = .ok (.iload_n 1, 1) := by decide +kernel
theorem gd_23_149 : decode gm_c23 149 = .ok (.iaload, 1) := by decide +kernel
theorem gd_23_150 : decode gm_c23 150 = .ok (.istore 4, 2) := by decide +kernel
theorem gd_23_152 : decode gm_c23 152 = .ok (.iload 4, 2) := by decide +kernel
theorem gd_23_154 : decode gm_c23 154 = .ok (.ifCond .lt (41), 3) := by decide +kernel
theorem gd_23_157 : decode gm_c23 157 = .ok (.iload_n 2, 1) := by decide +kernel
theorem gd_23_158 : decode gm_c23 158 = .ok (.bipush (10), 2) := by decide +kernel
theorem gd_23_160 : decode gm_c23 160 = .ok (.if_icmp .ne (35), 3) := by decide +kernel
theorem gd_23_163 : decode gm_c23 163 = .ok (.iload_n 3, 1) := by decide +kernel
theorem gd_23_164 : decode gm_c23 164 = .ok (.ifCond .ne (13), 3) := by decide +kernel
theorem gd_23_167 : decode gm_c23 167 = .ok (.aload_n 0, 1) := by decide +kernel
theorem gd_23_168 : decode gm_c23 168 = .ok (.getfield 44, 3) := by decide +kernel
theorem gd_23_171 : decode gm_c23 171 = .ok (.iload 4, 2) := by decide +kernel
theorem gd_23_173 : decode gm_c23 173 = .ok (.baload, 1) := by decide +kernel
theorem gd_23_174 : decode gm_c23 174 = .ok (.ifCond .eq (7), 3) := by decide +kernel
theorem gd_23_177 : decode gm_c23 177 = .ok (.iconst 1, 1) := by decide +kernel
theorem gd_23_178 : decode gm_c23 178 = .ok (.goto (4), 3) := by decide +kernel
theorem gd_23_181 : decode gm_c23 181 = .ok (.iconst 0, 1) := by decide +kernel
theorem gd_23_182 : decode gm_c23 182 = .ok (.istore_n 3, 1) := by decide +kernel
theorem gd_23_183 : decode gm_c23 183 = .ok (.aload_n 0, 1) := by decide +kernel
theorem gd_23_184 : decode gm_c23 184 = .ok (.getfield 38, 3) := by decide +kernel
theorem gd_23_187 : decode gm_c23 187 = .ok (.iload 4, 2) := by decide +kernel
theorem gd_23_189 : decode gm_c23 189 = .ok (.iaload, 1) := by decide +kernel
theorem gd_23_190 : decode gm_c23 190 = .ok (.istore 4, 2) := by decide +kernel
theorem gd_23_192 : decode gm_c23 192 = .ok (.goto (-40), 3) := by decide +kernel
theorem gd_23_195 : decode gm_c23 195 = .ok (.iload_n 3, 1) := by decide +kernel
theorem gd_23_196 : decode gm_c23 196 = .ok (.ireturn, 1) := by decide +kernel
theorem gd_24_0 : decode gm_c24 0 = .ok (.aload_n 0, 1) := by decide +kernel
theorem gd_24_1 : decode gm_c24 1 = .ok (.getfield 29, 3) := by decide +kernel
theorem gd_24_4 : decode gm_c24 4 = .ok (.iload_n 1, 1) := by decide +kernel
theorem gd_24_5 : decode gm_c24 5 = .ok (.iaload, 1) := by decide +kernel
theorem gd_24_6 : decode gm_c24 6 = .ok (.istore_n 2, 1) := by decide +kernel
theorem gd_24_7 : decode gm_c24 7 = .ok (.iload_n 2, 1) := by decide +kernel
theorem gd_24_8 : decode gm_c24 8 = .ok (.ifCond .eq (8), 3) := by decide +kernel
theorem gd_24_11 : decode gm_c24 11 = .ok (.iload_n 2, 1) := by decide +kernel
theorem gd_24_12 : decode gm_c24 12 = .ok (.iconst 2, 1) := by decide +kernel
theorem gd_24_13 : decode gm_c24 13 = .ok (.if_icmp .ne (5), 3) := by decide +kernel
theorem gd_24_16 : decode gm_c24 16 = .ok (.iconst 0, 1) := by decide +kernel
theorem gd_24_17 : decode gm_c24 17 = .ok (.ireturn, 1) := by decide +kernel
theorem gd_24_18 : decode gm_c24 18 = .ok (.iload_n 2, 1) := by decide +kernel
theorem gd_24_19 : decode gm_c24 19 = .ok (.iconst 1, 1) := by decide +kernel
theorem gd_24_20 : decode gm_c24 20 = .ok (.if_icmp .ne (12), 3) := by decide +kernel
theorem gd_24_23 : decode gm_c24 23 = .ok (.iconst 1, 1) := by decide +kernel
theorem gd_24_24 : decode gm_c24 24 = .ok (.aload_n 0, 1) := by decide +kernel
theorem gd_24_25 : decode gm_c24 25 = .ok (.getfield 32, 3) := by decide +kernel
theorem gd_24_28 : decode gm_c24 28 = .ok (.iload_n 1, 1) := by decide +kernel
theorem gd_24_29 : decode gm_c24 29 = .ok (.iaload, 1) := by decide +kernel
theorem gd_24_30 : decode gm_c24 30 = .ok (.ishl, 1) := by decide +kernel
theorem gd_24_31 : decode gm_c24 31 = .ok (.ireturn, 1) := by decide +kernel
theorem gd_24_32 : decode gm_c24 32 = .ok (.iload_n 2, 1) := by decide +kernel
theorem gd_24_33 : decode gm_c24 33 = .ok (.bipush (9), 2) := by decide +kernel
theorem gd_24_35 : decode gm_c24 35 = .ok (.if_icmp .ge (15), 3) := by decide +kernel
theorem gd_24_38 : decode gm_c24 38 = .ok (.aload_n 0, 1) := by decide +kernel
theorem gd_24_39 : decode gm_c24 39 = .ok (.getfield 47, 3) := by decide +kernel
theorem gd_24_42 : decode gm_c24 42 = .ok (.aload_n 0, 1) := by decide +kernel
theorem gd_24_43 : decode gm_c24 43 = .ok (.getfield 32, 3) := by decide +kernel
theorem gd_24_46 : decode gm_c24 46 = .ok (.iload_n 1, 1) := by decide +kernel
theorem gd_24_47 : decode gm_c24 47 = .ok (.iaload, 1) := by decide +kernel
theorem gd_24_48 : decode gm_c24 48 = .ok (.iaload, 1) := by decide +kernel
theorem gd_24_49 : decode gm_c24 49 = .ok (.ireturn, 1) := by decide +kernel
theorem gd_24_50 : decode gm_c24 50 = .ok (.iconst 0, 1) := by decide +kernel
theorem gd_24_51 : decode gm_c24 51 = .ok (.istore_n 3, 1) := by decide +kernel
theorem gd_24_52 : decode gm_c24 52 = .ok (.iconst 1, 1) := by decide +kernel
theorem gd_24_53 : decode gm_c24 53 = .ok (.istore 4, 2) := by decide +kernel
theorem gd_24_55 : decode gm_c24 55 = .ok (.aload_n 0, 1) := by decide +kernel
theorem gd_24_56 : decode gm_c24 56 = .ok (.getfield 32, 3) := by decide +kernel
theorem gd_24_59 : decode gm_c24 59 = .ok (.iload_n 1, 1) := by decide +kernel
theorem gd_24_60 : decode gm_c24 60 = .ok (.iaload, 1) := by decide +kernel
theorem gd_24_61 : decode gm_c24 61 = .ok (.istore 5, 2) := by decide +kernel
theorem gd_24_63 : decode gm_c24 63 = .ok (.iload 5, 2) := by decide +kernel
theorem gd_24_65 : decode gm_c24 65 = .ok (.ifCond .lt (53), 3) := by decide +kernel
theorem gd_24_68 : decode gm_c24 68 = .ok (.iload 4, 2) := by decide +kernel
theorem gd_24_70 : decode gm_c24 70 = .ok (.ifCond .eq (48), 3) := by decide +kernel
theorem gd_24_73 : decode gm_c24 73 = .ok (.iload_n 3, 1) := by decide +kernel
theorem gd_24_74 : decode gm_c24 74 = .ok (.aload_n 0, 1) := by decide +kernel
theorem gd_24_75 : decode gm_c24 75 = .ok (.getfield 47, 3) := by decide +kernel
theorem gd_24_78 : decode gm_c24 78 = .ok (.iload 5, 2) := by decide +kernel
theorem gd_24_80 : decode gm_c24 80 = .ok (.iaload, 1) := by decide +kernel
theorem gd_24_81 : decode gm_c24 81 = .ok (.ior, 1) := by decide +kernel
theorem gd_24_82 : decode gm_c24 82 = .ok (.istore_n 3, 1) := by decide +kernel
theorem gd_24_83 : decode gm_c24 83 = .ok (.iload_n 2, 1) := by decide +kernel
theorem gd_24_84 : decode gm_c24 84 = .ok (.bipush (10), 2) := by decide +kernel
theorem gd_24_86 : decode gm_c24 86 = .ok (.if_icmp .eq (13), 3) := by decide +kernel
theorem gd_24_89 : decode gm_c24 89 = .ok (.aload_n 0, 1) := by decide +kernel
theorem gd_24_90 : decode gm_c24 90 = .ok (.getfield 44, 3) := by decide +kernel
theorem gd_24_93 : decode gm_c24 93 = .ok (.iload 5, 2) := by decide +kernel
theorem gd_24_95 : decode gm_c24 95 = .ok (.baload, 1) := by decide +kernel
theorem gd_24_96 : decode gm_c24 96 = .ok (.ifCond .eq (7), 3) := by decide +kernel
theorem gd_24_99 : decode gm_c24 99 = .ok (.iconst 1, 1) := by decide +kernel
theorem gd_24_100 : decode gm_c24 100 = .ok (.goto (4), 3) := by decide +kernel
theorem gd_24_103 : decode gm_c24 103 = .ok (.iconst 0, 1) := by decide +kernel
theorem gd_24_104 : decode gm_c24 104 = .ok (.istore 4, 2) := by decide +kernel
theorem gd_24_106 : decode gm_c24 106 = .ok (.aload_n 0, 1) := by decide +kernel
theorem gd_24_107 : decode gm_c24 107 = .ok (.getfield 38, 3) := by decide +kernel
theorem gd_24_110 : decode gm_c24 110 = .ok (.iload 5, 2) := by decide +kernel
theorem gd_24_112 : decode gm_c24 112 = .ok (.iaload, 1) := by decide +kernel
theorem gd_24_113 : decode gm_c24 113 = .ok (.istore 5, 2) := by decide +kernel
theorem gd_24_115 : decode gm_c24 115 = .ok (.goto (-52), 3) := by decide +kernel
theorem gd_24_118 : decode gm_c24 118 = .ok (.iload_n 3, 1) := by decide +kernel
theorem gd_24_119 : decode gm_c24 119 = .ok (.ireturn, 1) := by decide +kernel
theorem gd_25_0 : decode gm_c25 0 = .ok (.iconst 0, 1) := by decide +kernel
theorem gd_25_1 : decode gm_c25 1 = .ok (.istore_n 1, 1) := by decide +kernel
theorem gd_25_2 : decode gm_c25 2 = .ok (.iload_n 1, 1) := by decide +kernel
theorem gd_25_3 : decode gm_c25 3 = .ok (.sipush (200), 3) := by decide +kernel
theorem gd_25_6 : decode gm_c25 6 = .ok (.if_icmp .ge (23), 3) := by decide +kernel
theorem gd_25_9 : decode gm_c25 9 = .ok (.aload_n 0, 1) := by decide +kernel
theorem gd_25_10 : decode gm_c25 10 = .ok (.getfield 44, 3) := by decide +kernel
theorem gd_25_13 : decode gm_c25 13 = .ok (.iload_n 1, 1) := by decide +kernel
theorem gd_25_14 : decode gm_c25 14 = .ok (.iconst 0, 1) := by decide +kernel
theorem gd_25_15 : decode gm_c25 15 = .ok (.bastore, 1) := by decide +kernel
theorem gd_25_16 : decode gm_c25 16 = .ok (.aload_n 0, 1) := by decide +kernel
theorem gd_25_17 : decode gm_c25 17 = .ok (.getfield 47, 3) := by decide +kernel
theorem gd_25_20 : decode gm_c25 20 = .ok (.iload_n 1, 1) := by decide +kernel
theorem gd_25_21 : decode gm_c25 21 = .ok (.iconst 0, 1) := by decide +kernel
theorem gd_25_22 : decode gm_c25 22 = .ok (.iastore, 1) := by decide +kernel
