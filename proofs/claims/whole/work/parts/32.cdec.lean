/-! The decode rows of the class. -/
theorem ge_0_0 : decode gc_c0 0 = .ok (.aload_n 0, 1) := by decide +kernel
theorem ge_0_1 : decode gc_c0 1 = .ok (.invokespecial 3, 3) := by decide +kernel
theorem ge_0_4 : decode gc_c0 4 = .ok (.aload_n 0, 1) := by decide +kernel
theorem ge_0_5 : decode gc_c0 5 = .ok (.bipush (20), 2) := by decide +kernel
theorem ge_0_7 : decode gc_c0 7 = .ok (.newarray .char, 2) := by decide +kernel
theorem ge_0_9 : decode gc_c0 9 = .ok (.putfield 9, 3) := by decide +kernel
theorem ge_0_12 : decode gc_c0 12 = .ok (.aload_n 0, 1) := by decide +kernel
theorem ge_0_13 : decode gc_c0 13 = .ok (.bipush (9), 2) := by decide +kernel
theorem ge_0_15 : decode gc_c0 15 = .ok (.newarray .char, 2) := by decide +kernel
theorem ge_0_17 : decode gc_c0 17 = .ok (.putfield 13, 3) := by decide +kernel
theorem ge_0_20 : decode gc_c0 20 = .ok (.aload_n 0, 1) := by decide +kernel
theorem ge_0_21 : decode gc_c0 21 = .ok (.new 16, 3) := by decide +kernel
theorem ge_0_24 : decode gc_c0 24 = .ok (.dup, 1) := by decide +kernel
theorem ge_0_25 : decode gc_c0 25 = .ok (.invokespecial 18, 3) := by decide +kernel
theorem ge_0_28 : decode gc_c0 28 = .ok (.putfield 19, 3) := by decide +kernel
theorem ge_0_31 : decode gc_c0 31 = .ok (.aload_n 0, 1) := by decide +kernel
theorem ge_0_32 : decode gc_c0 32 = .ok (.new 23, 3) := by decide +kernel
theorem ge_0_35 : decode gc_c0 35 = .ok (.dup, 1) := by decide +kernel
theorem ge_0_36 : decode gc_c0 36 = .ok (.invokespecial 25, 3) := by decide +kernel
theorem ge_0_39 : decode gc_c0 39 = .ok (.putfield 26, 3) := by decide +kernel
theorem ge_0_42 : decode gc_c0 42 = .ok (.aload_n 0, 1) := by decide +kernel
theorem ge_0_43 : decode gc_c0 43 = .ok (.new 30, 3) := by decide +kernel
theorem ge_0_46 : decode gc_c0 46 = .ok (.dup, 1) := by decide +kernel
theorem ge_0_47 : decode gc_c0 47 = .ok (.invokespecial 32, 3) := by decide +kernel
theorem ge_0_50 : decode gc_c0 50 = .ok (.putfield 33, 3) := by decide +kernel
theorem ge_0_53 : decode gc_c0 53 = .ok (.aload_n 0, 1) := by decide +kernel
theorem ge_0_54 : decode gc_c0 54 = .ok (.iconst (0), 1) := by decide +kernel
theorem ge_0_55 : decode gc_c0 55 = .ok (.putfield 37, 3) := by decide +kernel
theorem ge_0_58 : decode gc_c0 58 = .ok (.aload_n 0, 1) := by decide +kernel
theorem ge_0_59 : decode gc_c0 59 = .ok (.iconst (0), 1) := by decide +kernel
theorem ge_0_60 : decode gc_c0 60 = .ok (.putfield 41, 3) := by decide +kernel
theorem ge_0_63 : decode gc_c0 63 = .ok (.aload_n 0, 1) := by decide +kernel
theorem ge_0_64 : decode gc_c0 64 = .ok (.iconst (-1), 1) := by decide +kernel
theorem ge_0_65 : decode gc_c0 65 = .ok (.putfield 44, 3) := by decide +kernel
theorem ge_0_68 : decode gc_c0 68 = .ok (.return_, 1) := by decide +kernel
theorem ge_1_0 : decode gc_c1 0 = .ok (.aload_n 0, 1) := by decide +kernel
theorem ge_1_1 : decode gc_c1 1 = .ok (.invokespecial 3, 3) := by decide +kernel
theorem ge_1_4 : decode gc_c1 4 = .ok (.aload_n 0, 1) := by decide +kernel
theorem ge_1_5 : decode gc_c1 5 = .ok (.bipush (20), 2) := by decide +kernel
theorem ge_1_7 : decode gc_c1 7 = .ok (.newarray .char, 2) := by decide +kernel
theorem ge_1_9 : decode gc_c1 9 = .ok (.putfield 9, 3) := by decide +kernel
theorem ge_1_12 : decode gc_c1 12 = .ok (.aload_n 0, 1) := by decide +kernel
theorem ge_1_13 : decode gc_c1 13 = .ok (.iconst (0), 1) := by decide +kernel
theorem ge_1_14 : decode gc_c1 14 = .ok (.putfield 15, 3) := by decide +kernel
theorem ge_1_17 : decode gc_c1 17 = .ok (.aload_n 0, 1) := by decide +kernel
theorem ge_1_18 : decode gc_c1 18 = .ok (.iconst (0), 1) := by decide +kernel
theorem ge_1_19 : decode gc_c1 19 = .ok (.putfield 19, 3) := by decide +kernel
theorem ge_1_22 : decode gc_c1 22 = .ok (.return_, 1) := by decide +kernel
theorem ge_2_0 : decode gc_c2 0 = .ok (.aload_n 0, 1) := by decide +kernel
theorem ge_2_1 : decode gc_c2 1 = .ok (.invokespecial 3, 3) := by decide +kernel
theorem ge_2_4 : decode gc_c2 4 = .ok (.aload_n 0, 1) := by decide +kernel
theorem ge_2_5 : decode gc_c2 5 = .ok (.iconst (4), 1) := by decide +kernel
theorem ge_2_6 : decode gc_c2 6 = .ok (.anewarray 9, 3) := by decide +kernel
theorem ge_2_9 : decode gc_c2 9 = .ok (.putfield 11, 3) := by decide +kernel
theorem ge_2_12 : decode gc_c2 12 = .ok (.aload_n 0, 1) := by decide +kernel
theorem ge_2_13 : decode gc_c2 13 = .ok (.bipush (80), 2) := by decide +kernel
theorem ge_2_15 : decode gc_c2 15 = .ok (.newarray .char, 2) := by decide +kernel
theorem ge_2_17 : decode gc_c2 17 = .ok (.putfield 17, 3) := by decide +kernel
theorem ge_2_20 : decode gc_c2 20 = .ok (.aload_n 0, 1) := by decide +kernel
theorem ge_2_21 : decode gc_c2 21 = .ok (.iconst (4), 1) := by decide +kernel
theorem ge_2_22 : decode gc_c2 22 = .ok (.newarray .int, 2) := by decide +kernel
theorem ge_2_24 : decode gc_c2 24 = .ok (.putfield 21, 3) := by decide +kernel
theorem ge_2_27 : decode gc_c2 27 = .ok (.aload_n 0, 1) := by decide +kernel
theorem ge_2_28 : decode gc_c2 28 = .ok (.iconst (0), 1) := by decide +kernel
theorem ge_2_29 : decode gc_c2 29 = .ok (.putfield 25, 3) := by decide +kernel
theorem ge_2_32 : decode gc_c2 32 = .ok (.return_, 1) := by decide +kernel
theorem ge_3_0 : decode gc_c3 0 = .ok (.aload_n 0, 1) := by decide +kernel
theorem ge_3_1 : decode gc_c3 1 = .ok (.invokespecial 3, 3) := by decide +kernel
theorem ge_3_4 : decode gc_c3 4 = .ok (.aload_n 0, 1) := by decide +kernel
theorem ge_3_5 : decode gc_c3 5 = .ok (.bipush (9), 2) := by decide +kernel
theorem ge_3_7 : decode gc_c3 7 = .ok (.newarray .char, 2) := by decide +kernel
theorem ge_3_9 : decode gc_c3 9 = .ok (.putfield 9, 3) := by decide +kernel
theorem ge_3_12 : decode gc_c3 12 = .ok (.aload_n 0, 1) := by decide +kernel
theorem ge_3_13 : decode gc_c3 13 = .ok (.iconst (0), 1) := by decide +kernel
theorem ge_3_14 : decode gc_c3 14 = .ok (.putfield 15, 3) := by decide +kernel
theorem ge_3_17 : decode gc_c3 17 = .ok (.aload_n 0, 1) := by decide +kernel
theorem ge_3_18 : decode gc_c3 18 = .ok (.iconst (0), 1) := by decide +kernel
theorem ge_3_19 : decode gc_c3 19 = .ok (.putfield 19, 3) := by decide +kernel
theorem ge_3_22 : decode gc_c3 22 = .ok (.aload_n 0, 1) := by decide +kernel
theorem ge_3_23 : decode gc_c3 23 = .ok (.bipush (40), 2) := by decide +kernel
theorem ge_3_25 : decode gc_c3 25 = .ok (.newarray .int, 2) := by decide +kernel
theorem ge_3_27 : decode gc_c3 27 = .ok (.putfield 22, 3) := by decide +kernel
theorem ge_3_30 : decode gc_c3 30 = .ok (.aload_n 0, 1) := by decide +kernel
theorem ge_3_31 : decode gc_c3 31 = .ok (.bipush (40), 2) := by decide +kernel
theorem ge_3_33 : decode gc_c3 33 = .ok (.newarray .int, 2) := by decide +kernel
theorem ge_3_35 : decode gc_c3 35 = .ok (.putfield 26, 3) := by decide +kernel
theorem ge_3_38 : decode gc_c3 38 = .ok (.aload_n 0, 1) := by decide +kernel
theorem ge_3_39 : decode gc_c3 39 = .ok (.bipush (40), 2) := by decide +kernel
theorem ge_3_41 : decode gc_c3 41 = .ok (.newarray .long, 2) := by decide +kernel
theorem ge_3_43 : decode gc_c3 43 = .ok (.putfield 29, 3) := by decide +kernel
theorem ge_3_46 : decode gc_c3 46 = .ok (.aload_n 0, 1) := by decide +kernel
theorem ge_3_47 : decode gc_c3 47 = .ok (.bipush (40), 2) := by decide +kernel
theorem ge_3_49 : decode gc_c3 49 = .ok (.newarray .int, 2) := by decide +kernel
theorem ge_3_51 : decode gc_c3 51 = .ok (.putfield 33, 3) := by decide +kernel
theorem ge_3_54 : decode gc_c3 54 = .ok (.aload_n 0, 1) := by decide +kernel
theorem ge_3_55 : decode gc_c3 55 = .ok (.sipush (1600), 3) := by decide +kernel
theorem ge_3_58 : decode gc_c3 58 = .ok (.newarray .int, 2) := by decide +kernel
theorem ge_3_60 : decode gc_c3 60 = .ok (.putfield 36, 3) := by decide +kernel
theorem ge_3_63 : decode gc_c3 63 = .ok (.aload_n 0, 1) := by decide +kernel
theorem ge_3_64 : decode gc_c3 64 = .ok (.sipush (1600), 3) := by decide +kernel
theorem ge_3_67 : decode gc_c3 67 = .ok (.newarray .int, 2) := by decide +kernel
theorem ge_3_69 : decode gc_c3 69 = .ok (.putfield 39, 3) := by decide +kernel
theorem ge_3_72 : decode gc_c3 72 = .ok (.return_, 1) := by decide +kernel
theorem ge_4_0 : decode gc_c4 0 = .ok (.iload_n 1, 1) := by decide +kernel
theorem ge_4_1 : decode gc_c4 1 = .ok (.invokestatic 67, 3) := by decide +kernel
theorem ge_4_4 : decode gc_c4 4 = .ok (.ifCond .eq (15), 3) := by decide +kernel
theorem ge_4_7 : decode gc_c4 7 = .ok (.aload_n 0, 1) := by decide +kernel
theorem ge_4_8 : decode gc_c4 8 = .ok (.getfield 26, 3) := by decide +kernel
theorem ge_4_11 : decode gc_c4 11 = .ok (.iload_n 1, 1) := by decide +kernel
theorem ge_4_12 : decode gc_c4 12 = .ok (.iload_n 2, 1) := by decide +kernel
theorem ge_4_13 : decode gc_c4 13 = .ok (.invokevirtual 70, 3) := by decide +kernel
theorem ge_4_16 : decode gc_c4 16 = .ok (.goto (4), 3) := by decide +kernel
theorem ge_4_19 : decode gc_c4 19 = .ok (.iconst (0), 1) := by decide +kernel
theorem ge_4_20 : decode gc_c4 20 = .ok (.ireturn, 1) := by decide +kernel
theorem ge_5_0 : decode gc_c5 0 = .ok (.iload_n 0, 1) := by decide +kernel
theorem ge_5_1 : decode gc_c5 1 = .ok (.ifCond .lt (12), 3) := by decide +kernel
theorem ge_5_4 : decode gc_c5 4 = .ok (.iload_n 0, 1) := by decide +kernel
theorem ge_5_5 : decode gc_c5 5 = .ok (.iconst (4), 1) := by decide +kernel
theorem ge_5_6 : decode gc_c5 6 = .ok (.if_icmp .ge (7), 3) := by decide +kernel
theorem ge_5_9 : decode gc_c5 9 = .ok (.iconst (1), 1) := by decide +kernel
theorem ge_5_10 : decode gc_c5 10 = .ok (.goto (4), 3) := by decide +kernel
theorem ge_5_13 : decode gc_c5 13 = .ok (.iconst (0), 1) := by decide +kernel
theorem ge_5_14 : decode gc_c5 14 = .ok (.ireturn, 1) := by decide +kernel
theorem ge_6_0 : decode gc_c6 0 = .ok (.iload_n 2, 1) := by decide +kernel
theorem ge_6_1 : decode gc_c6 1 = .ok (.ifCond .lt (23), 3) := by decide +kernel
theorem ge_6_4 : decode gc_c6 4 = .ok (.iload_n 2, 1) := by decide +kernel
theorem ge_6_5 : decode gc_c6 5 = .ok (.bipush (20), 2) := by decide +kernel
theorem ge_6_7 : decode gc_c6 7 = .ok (.if_icmp .ge (17), 3) := by decide +kernel
theorem ge_6_10 : decode gc_c6 10 = .ok (.aload_n 0, 1) := by decide +kernel
theorem ge_6_11 : decode gc_c6 11 = .ok (.getfield 17, 3) := by decide +kernel
theorem ge_6_14 : decode gc_c6 14 = .ok (.iload_n 1, 1) := by decide +kernel
theorem ge_6_15 : decode gc_c6 15 = .ok (.bipush (20), 2) := by decide +kernel
theorem ge_6_17 : decode gc_c6 17 = .ok (.imul, 1) := by decide +kernel
theorem ge_6_18 : decode gc_c6 18 = .ok (.iload_n 2, 1) := by decide +kernel
theorem ge_6_19 : decode gc_c6 19 = .ok (.iadd, 1) := by decide +kernel
theorem ge_6_20 : decode gc_c6 20 = .ok (.caload, 1) := by decide +kernel
theorem ge_6_21 : decode gc_c6 21 = .ok (.goto (4), 3) := by decide +kernel
theorem ge_6_24 : decode gc_c6 24 = .ok (.iconst (0), 1) := by decide +kernel
theorem ge_6_25 : decode gc_c6 25 = .ok (.ireturn, 1) := by decide +kernel
theorem ge_7_0 : decode gc_c7 0 = .ok (.aload_n 0, 1) := by decide +kernel
theorem ge_7_1 : decode gc_c7 1 = .ok (.getfield 41, 3) := by decide +kernel
theorem ge_7_4 : decode gc_c7 4 = .ok (.istore_n 1, 1) := by decide +kernel
theorem ge_7_5 : decode gc_c7 5 = .ok (.aload_n 0, 1) := by decide +kernel
theorem ge_7_6 : decode gc_c7 6 = .ok (.iconst (0), 1) := by decide +kernel
theorem ge_7_7 : decode gc_c7 7 = .ok (.putfield 41, 3) := by decide +kernel
theorem ge_7_10 : decode gc_c7 10 = .ok (.iload_n 1, 1) := by decide +kernel
theorem ge_7_11 : decode gc_c7 11 = .ok (.ireturn, 1) := by decide +kernel
theorem ge_8_0 : decode gc_c8 0 = .ok (.aload_n 0, 1) := by decide +kernel
theorem ge_8_1 : decode gc_c8 1 = .ok (.getfield 44, 3) := by decide +kernel
theorem ge_8_4 : decode gc_c8 4 = .ok (.iconst (-1), 1) := by decide +kernel
theorem ge_8_5 : decode gc_c8 5 = .ok (.if_icmp .ne (7), 3) := by decide +kernel
theorem ge_8_8 : decode gc_c8 8 = .ok (.iconst (0), 1) := by decide +kernel
theorem ge_8_9 : decode gc_c8 9 = .ok (.goto (14), 3) := by decide +kernel
theorem ge_8_12 : decode gc_c8 12 = .ok (.aload_n 0, 1) := by decide +kernel
theorem ge_8_13 : decode gc_c8 13 = .ok (.getfield 33, 3) := by decide +kernel
theorem ge_8_16 : decode gc_c8 16 = .ok (.aload_n 0, 1) := by decide +kernel
theorem ge_8_17 : decode gc_c8 17 = .ok (.getfield 44, 3) := by decide +kernel
theorem ge_8_20 : decode gc_c8 20 = .ok (.invokevirtual 95, 3) := by decide +kernel
theorem ge_8_23 : decode gc_c8 23 = .ok (.ireturn, 1) := by decide +kernel
theorem ge_9_0 : decode gc_c9 0 = .ok (.aload_n 0, 1) := by decide +kernel
theorem ge_9_1 : decode gc_c9 1 = .ok (.getfield 33, 3) := by decide +kernel
theorem ge_9_4 : decode gc_c9 4 = .ok (.iload_n 1, 1) := by decide +kernel
theorem ge_9_5 : decode gc_c9 5 = .ok (.iaload, 1) := by decide +kernel
theorem ge_9_6 : decode gc_c9 6 = .ok (.ireturn, 1) := by decide +kernel
theorem ge_10_0 : decode gc_c10 0 = .ok (.aload_n 0, 1) := by decide +kernel
theorem ge_10_1 : decode gc_c10 1 = .ok (.getfield 44, 3) := by decide +kernel
theorem ge_10_4 : decode gc_c10 4 = .ok (.iconst (-1), 1) := by decide +kernel
theorem ge_10_5 : decode gc_c10 5 = .ok (.if_icmp .ne (7), 3) := by decide +kernel
theorem ge_10_8 : decode gc_c10 8 = .ok (.iconst (-1), 1) := by decide +kernel
theorem ge_10_9 : decode gc_c10 9 = .ok (.goto (14), 3) := by decide +kernel
theorem ge_10_12 : decode gc_c10 12 = .ok (.aload_n 0, 1) := by decide +kernel
theorem ge_10_13 : decode gc_c10 13 = .ok (.getfield 33, 3) := by decide +kernel
theorem ge_10_16 : decode gc_c10 16 = .ok (.aload_n 0, 1) := by decide +kernel
theorem ge_10_17 : decode gc_c10 17 = .ok (.getfield 44, 3) := by decide +kernel
theorem ge_10_20 : decode gc_c10 20 = .ok (.invokevirtual 108, 3) := by decide +kernel
theorem ge_10_23 : decode gc_c10 23 = .ok (.ireturn, 1) := by decide +kernel
theorem ge_11_0 : decode gc_c11 0 = .ok (.aload_n 0, 1) := by decide +kernel
theorem ge_11_1 : decode gc_c11 1 = .ok (.getfield 26, 3) := by decide +kernel
theorem ge_11_4 : decode gc_c11 4 = .ok (.iload_n 1, 1) := by decide +kernel
theorem ge_11_5 : decode gc_c11 5 = .ok (.iaload, 1) := by decide +kernel
theorem ge_11_6 : decode gc_c11 6 = .ok (.ireturn, 1) := by decide +kernel
theorem ge_12_0 : decode gc_c12 0 = .ok (.aload_n 0, 1) := by decide +kernel
theorem ge_12_1 : decode gc_c12 1 = .ok (.getfield 44, 3) := by decide +kernel
theorem ge_12_4 : decode gc_c12 4 = .ok (.iconst (-1), 1) := by decide +kernel
theorem ge_12_5 : decode gc_c12 5 = .ok (.if_icmp .ne (7), 3) := by decide +kernel
theorem ge_12_8 : decode gc_c12 8 = .ok (.iconst (0), 1) := by decide +kernel
theorem ge_12_9 : decode gc_c12 9 = .ok (.goto (14), 3) := by decide +kernel
theorem ge_12_12 : decode gc_c12 12 = .ok (.aload_n 0, 1) := by decide +kernel
theorem ge_12_13 : decode gc_c12 13 = .ok (.getfield 33, 3) := by decide +kernel
theorem ge_12_16 : decode gc_c12 16 = .ok (.aload_n 0, 1) := by decide +kernel
theorem ge_12_17 : decode gc_c12 17 = .ok (.getfield 44, 3) := by decide +kernel
theorem ge_12_20 : decode gc_c12 20 = .ok (.invokevirtual 111, 3) := by decide +kernel
theorem ge_12_23 : decode gc_c12 23 = .ok (.ireturn, 1) := by decide +kernel
theorem ge_13_0 : decode gc_c13 0 = .ok (.aload_n 0, 1) := by decide +kernel
theorem ge_13_1 : decode gc_c13 1 = .ok (.getfield 29, 3) := by decide +kernel
theorem ge_13_4 : decode gc_c13 4 = .ok (.iload_n 1, 1) := by decide +kernel
theorem ge_13_5 : decode gc_c13 5 = .ok (.laload, 1) := by decide +kernel
theorem ge_13_6 : decode gc_c13 6 = .ok (.invokestatic 74, 3) := by decide +kernel
theorem ge_13_9 : decode gc_c13 9 = .ok (.ireturn, 1) := by decide +kernel
theorem ge_14_0 : decode gc_c14 0 = .ok (.aload_n 0, 1) := by decide +kernel
theorem ge_14_1 : decode gc_c14 1 = .ok (.getfield 9, 3) := by decide +kernel
theorem ge_14_4 : decode gc_c14 4 = .ok (.aload_n 0, 1) := by decide +kernel
theorem ge_14_5 : decode gc_c14 5 = .ok (.getfield 37, 3) := by decide +kernel
theorem ge_14_8 : decode gc_c14 8 = .ok (.iload_n 1, 1) := by decide +kernel
theorem ge_14_9 : decode gc_c14 9 = .ok (.invokestatic 47, 3) := by decide +kernel
theorem ge_14_12 : decode gc_c14 12 = .ok (.istore_n 2, 1) := by decide +kernel
theorem ge_14_13 : decode gc_c14 13 = .ok (.iload_n 2, 1) := by decide +kernel
theorem ge_14_14 : decode gc_c14 14 = .ok (.iconst (-1), 1) := by decide +kernel
theorem ge_14_15 : decode gc_c14 15 = .ok (.if_icmp .ne (5), 3) := by decide +kernel
theorem ge_14_18 : decode gc_c14 18 = .ok (.iconst (0), 1) := by decide +kernel
theorem ge_14_19 : decode gc_c14 19 = .ok (.ireturn, 1) := by decide +kernel
theorem ge_14_20 : decode gc_c14 20 = .ok (.aload_n 0, 1) := by decide +kernel
theorem ge_14_21 : decode gc_c14 21 = .ok (.iload_n 2, 1) := by decide +kernel
theorem ge_14_22 : decode gc_c14 22 = .ok (.putfield 37, 3) := by decide +kernel
theorem ge_14_25 : decode gc_c14 25 = .ok (.iconst (1), 1) := by decide +kernel
theorem ge_14_26 : decode gc_c14 26 = .ok (.ireturn, 1) := by decide +kernel
theorem ge_15_0 : decode gc_c15 0 = .ok (.iload_n 2, 1) := by decide +kernel
theorem ge_15_1 : decode gc_c15 1 = .ok (.invokestatic 117, 3) := by decide +kernel
theorem ge_15_4 : decode gc_c15 4 = .ok (.istore_n 3, 1) := by decide +kernel
theorem ge_15_5 : decode gc_c15 5 = .ok (.iload_n 1, 1) := by decide +kernel
theorem ge_15_6 : decode gc_c15 6 = .ok (.iload_n 3, 1) := by decide +kernel
theorem ge_15_7 : decode gc_c15 7 = .ok (.iadd, 1) := by decide +kernel
theorem ge_15_8 : decode gc_c15 8 = .ok (.aload_n 0, 1) := by decide +kernel
theorem ge_15_9 : decode gc_c15 9 = .ok (.arraylength, 1) := by decide +kernel
theorem ge_15_10 : decode gc_c15 10 = .ok (.if_icmp .le (5), 3) := by decide +kernel
theorem ge_15_13 : decode gc_c15 13 = .ok (.iconst (-1), 1) := by decide +kernel
theorem ge_15_14 : decode gc_c15 14 = .ok (.ireturn, 1) := by decide +kernel
theorem ge_15_15 : decode gc_c15 15 = .ok (.iconst (0), 1) := by decide +kernel
theorem ge_15_16 : decode gc_c15 16 = .ok (.istore 4, 2) := by decide +kernel
theorem ge_15_18 : decode gc_c15 18 = .ok (.iload 4, 2) := by decide +kernel
theorem ge_15_20 : decode gc_c15 20 = .ok (.iload_n 3, 1) := by decide +kernel
theorem ge_15_21 : decode gc_c15 21 = .ok (.if_icmp .ge (21), 3) := by decide +kernel
theorem ge_15_24 : decode gc_c15 24 = .ok (.aload_n 0, 1) := by decide +kernel
theorem ge_15_25 : decode gc_c15 25 = .ok (.iload_n 1, 1) := by decide +kernel
theorem ge_15_26 : decode gc_c15 26 = .ok (.iload 4, 2) := by decide +kernel
theorem ge_15_28 : decode gc_c15 28 = .ok (.iadd, 1) := by decide +kernel
theorem ge_15_29 : decode gc_c15 29 = .ok (.iload_n 2, 1) := by decide +kernel
theorem ge_15_30 : decode gc_c15 30 = .ok (.iload 4, 2) := by decide +kernel
theorem ge_15_32 : decode gc_c15 32 = .ok (.invokestatic 120, 3) := by decide +kernel
theorem ge_15_35 : decode gc_c15 35 = .ok (.castore, 1) := by decide +kernel
theorem ge_15_36 : decode gc_c15 36 = .ok (.iinc 4 (1), 3) := by decide +kernel
theorem ge_15_39 : decode gc_c15 39 = .ok (.goto (-21), 3) := by decide +kernel
theorem ge_15_42 : decode gc_c15 42 = .ok (.iload_n 1, 1) := by decide +kernel
theorem ge_15_43 : decode gc_c15 43 = .ok (.iload_n 3, 1) := by decide +kernel
theorem ge_15_44 : decode gc_c15 44 = .ok (.iadd, 1) := by decide +kernel
theorem ge_15_45 : decode gc_c15 45 = .ok (.ireturn, 1) := by decide +kernel
theorem ge_16_0 : decode gc_c16 0 = .ok (.iconst (0), 1) := by decide +kernel
theorem ge_16_1 : decode gc_c16 1 = .ok (.istore_n 1, 1) := by decide +kernel
theorem ge_16_2 : decode gc_c16 2 = .ok (.iload_n 1, 1) := by decide +kernel
theorem ge_16_3 : decode gc_c16 3 = .ok (.iconst (4), 1) := by decide +kernel
theorem ge_16_4 : decode gc_c16 4 = .ok (.if_icmp .ge (43), 3) := by decide +kernel
theorem ge_16_7 : decode gc_c16 7 = .ok (.iload_n 0, 1) := by decide +kernel
theorem ge_16_8 : decode gc_c16 8 = .ok (.iload_n 1, 1) := by decide +kernel
theorem ge_16_9 : decode gc_c16 9 = .ok (.invokestatic 120, 3) := by decide +kernel
theorem ge_16_12 : decode gc_c16 12 = .ok (.ifCond .eq (35), 3) := by decide +kernel
theorem ge_16_15 : decode gc_c16 15 = .ok (.iload_n 0, 1) := by decide +kernel
theorem ge_16_16 : decode gc_c16 16 = .ok (.iload_n 1, 1) := by decide +kernel
theorem ge_16_17 : decode gc_c16 17 = .ok (.invokestatic 120, 3) := by decide +kernel
theorem ge_16_20 : decode gc_c16 20 = .ok (.istore_n 2, 1) := by decide +kernel
theorem ge_16_21 : decode gc_c16 21 = .ok (.iload_n 2, 1) := by decide +kernel
theorem ge_16_22 : decode gc_c16 22 = .ok (.bipush (32), 2) := by decide +kernel
theorem ge_16_24 : decode gc_c16 24 = .ok (.if_icmp .lt (9), 3) := by decide +kernel
theorem ge_16_27 : decode gc_c16 27 = .ok (.iload_n 2, 1) := by decide +kernel
theorem ge_16_28 : decode gc_c16 28 = .ok (.bipush (126), 2) := by decide +kernel
theorem ge_16_30 : decode gc_c16 30 = .ok (.if_icmp .le (11), 3) := by decide +kernel
theorem ge_16_33 : decode gc_c16 33 = .ok (.new 123, 3) := by decide +kernel
theorem ge_16_36 : decode gc_c16 36 = .ok (.dup, 1) := by decide +kernel
theorem ge_16_37 : decode gc_c16 37 = .ok (.invokespecial 125, 3) := by decide +kernel
theorem ge_16_40 : decode gc_c16 40 = .ok (.athrow, 1) := by decide +kernel
theorem ge_16_41 : decode gc_c16 41 = .ok (.iinc 1 (1), 3) := by decide +kernel
theorem ge_16_44 : decode gc_c16 44 = .ok (.goto (-42), 3) := by decide +kernel
theorem ge_16_47 : decode gc_c16 47 = .ok (.iload_n 1, 1) := by decide +kernel
theorem ge_16_48 : decode gc_c16 48 = .ok (.ireturn, 1) := by decide +kernel
theorem ge_17_0 : decode gc_c17 0 = .ok (.iload_n 0, 1) := by decide +kernel
theorem ge_17_1 : decode gc_c17 1 = .ok (.bipush (8), 2) := by decide +kernel
theorem ge_17_3 : decode gc_c17 3 = .ok (.iload_n 1, 1) := by decide +kernel
theorem ge_17_4 : decode gc_c17 4 = .ok (.imul, 1) := by decide +kernel
theorem ge_17_5 : decode gc_c17 5 = .ok (.iushr, 1) := by decide +kernel
theorem ge_17_6 : decode gc_c17 6 = .ok (.sipush (255), 3) := by decide +kernel
theorem ge_17_9 : decode gc_c17 9 = .ok (.iand, 1) := by decide +kernel
theorem ge_17_10 : decode gc_c17 10 = .ok (.i2c, 1) := by decide +kernel
theorem ge_17_11 : decode gc_c17 11 = .ok (.ireturn, 1) := by decide +kernel
theorem ge_18_0 : decode gc_c18 0 = .ok (.aload_n 0, 1) := by decide +kernel
theorem ge_18_1 : decode gc_c18 1 = .ok (.getfield 37, 3) := by decide +kernel
theorem ge_18_4 : decode gc_c18 4 = .ok (.istore_n 1, 1) := by decide +kernel
theorem ge_18_5 : decode gc_c18 5 = .ok (.aload_n 0, 1) := by decide +kernel
theorem ge_18_6 : decode gc_c18 6 = .ok (.iconst (0), 1) := by decide +kernel
theorem ge_18_7 : decode gc_c18 7 = .ok (.putfield 37, 3) := by decide +kernel
theorem ge_18_10 : decode gc_c18 10 = .ok (.aload_n 0, 1) := by decide +kernel
theorem ge_18_11 : decode gc_c18 11 = .ok (.getfield 19, 3) := by decide +kernel
theorem ge_18_14 : decode gc_c18 14 = .ok (.aload_n 0, 1) := by decide +kernel
theorem ge_18_15 : decode gc_c18 15 = .ok (.getfield 9, 3) := by decide +kernel
theorem ge_18_18 : decode gc_c18 18 = .ok (.iload_n 1, 1) := by decide +kernel
theorem ge_18_19 : decode gc_c18 19 = .ok (.invokevirtual 51, 3) := by decide +kernel
theorem ge_18_22 : decode gc_c18 22 = .ok (.astore_n 2, 1) := by decide +kernel
theorem ge_18_23 : decode gc_c18 23 = .ok (.aload_n 0, 1) := by decide +kernel
theorem ge_18_24 : decode gc_c18 24 = .ok (.getfield 9, 3) := by decide +kernel
theorem ge_18_27 : decode gc_c18 27 = .ok (.iconst (0), 1) := by decide +kernel
theorem ge_18_28 : decode gc_c18 28 = .ok (.caload, 1) := by decide +kernel
theorem ge_18_29 : decode gc_c18 29 = .ok (.bipush (65), 2) := by decide +kernel
theorem ge_18_31 : decode gc_c18 31 = .ok (.isub, 1) := by decide +kernel
theorem ge_18_32 : decode gc_c18 32 = .ok (.istore_n 3, 1) := by decide +kernel
theorem ge_18_33 : decode gc_c18 33 = .ok (.aload_n 0, 1) := by decide +kernel
theorem ge_18_34 : decode gc_c18 34 = .ok (.getfield 26, 3) := by decide +kernel
theorem ge_18_37 : decode gc_c18 37 = .ok (.iload_n 3, 1) := by decide +kernel
theorem ge_18_38 : decode gc_c18 38 = .ok (.aload_n 2, 1) := by decide +kernel
theorem ge_18_39 : decode gc_c18 39 = .ok (.aload_n 0, 1) := by decide +kernel
theorem ge_18_40 : decode gc_c18 40 = .ok (.getfield 9, 3) := by decide +kernel
theorem ge_18_43 : decode gc_c18 43 = .ok (.iload_n 1, 1) := by decide +kernel
theorem ge_18_44 : decode gc_c18 44 = .ok (.invokevirtual 55, 3) := by decide +kernel
theorem ge_18_47 : decode gc_c18 47 = .ok (.iload_n 3, 1) := by decide +kernel
theorem ge_18_48 : decode gc_c18 48 = .ok (.ireturn, 1) := by decide +kernel
theorem ge_19_0 : decode gc_c19 0 = .ok (.aload_n 1, 1) := by decide +kernel
theorem ge_19_1 : decode gc_c19 1 = .ok (.iconst (0), 1) := by decide +kernel
theorem ge_19_2 : decode gc_c19 2 = .ok (.aload_n 0, 1) := by decide +kernel
theorem ge_19_3 : decode gc_c19 3 = .ok (.getfield 9, 3) := by decide +kernel
theorem ge_19_6 : decode gc_c19 6 = .ok (.iconst (0), 1) := by decide +kernel
theorem ge_19_7 : decode gc_c19 7 = .ok (.iload_n 2, 1) := by decide +kernel
theorem ge_19_8 : decode gc_c19 8 = .ok (.invokestatic 22, 3) := by decide +kernel
theorem ge_19_11 : decode gc_c19 11 = .ok (.aload_n 0, 1) := by decide +kernel
theorem ge_19_12 : decode gc_c19 12 = .ok (.iload_n 2, 1) := by decide +kernel
theorem ge_19_13 : decode gc_c19 13 = .ok (.putfield 15, 3) := by decide +kernel
theorem ge_19_16 : decode gc_c19 16 = .ok (.aload_n 0, 1) := by decide +kernel
theorem ge_19_17 : decode gc_c19 17 = .ok (.iconst (0), 1) := by decide +kernel
theorem ge_19_18 : decode gc_c19 18 = .ok (.putfield 19, 3) := by decide +kernel
theorem ge_19_21 : decode gc_c19 21 = .ok (.aload_n 0, 1) := by decide +kernel
theorem ge_19_22 : decode gc_c19 22 = .ok (.invokevirtual 28, 3) := by decide +kernel
theorem ge_19_25 : decode gc_c19 25 = .ok (.invokestatic 32, 3) := by decide +kernel
theorem ge_19_28 : decode gc_c19 28 = .ok (.ifCond .ne (11), 3) := by decide +kernel
theorem ge_19_31 : decode gc_c19 31 = .ok (.new 36, 3) := by decide +kernel
theorem ge_19_34 : decode gc_c19 34 = .ok (.dup, 1) := by decide +kernel
theorem ge_19_35 : decode gc_c19 35 = .ok (.invokespecial 38, 3) := by decide +kernel
theorem ge_19_38 : decode gc_c19 38 = .ok (.athrow, 1) := by decide +kernel
theorem ge_19_39 : decode gc_c19 39 = .ok (.aload_n 0, 1) := by decide +kernel
theorem ge_19_40 : decode gc_c19 40 = .ok (.dup, 1) := by decide +kernel
theorem ge_19_41 : decode gc_c19 41 = .ok (.getfield 19, 3) := by decide +kernel
theorem ge_19_44 : decode gc_c19 44 = .ok (.iconst (1), 1) := by decide +kernel
theorem ge_19_45 : decode gc_c19 45 = .ok (.iadd, 1) := by decide +kernel
theorem ge_19_46 : decode gc_c19 46 = .ok (.putfield 19, 3) := by decide +kernel
theorem ge_19_49 : decode gc_c19 49 = .ok (.aload_n 0, 1) := by decide +kernel
theorem ge_19_50 : decode gc_c19 50 = .ok (.bipush (61), 2) := by decide +kernel
theorem ge_19_52 : decode gc_c19 52 = .ok (.invokevirtual 39, 3) := by decide +kernel
theorem ge_19_55 : decode gc_c19 55 = .ok (.aload_n 0, 1) := by decide +kernel
theorem ge_19_56 : decode gc_c19 56 = .ok (.iconst (0), 1) := by decide +kernel
theorem ge_19_57 : decode gc_c19 57 = .ok (.invokevirtual 43, 3) := by decide +kernel
theorem ge_19_60 : decode gc_c19 60 = .ok (.astore_n 3, 1) := by decide +kernel
theorem ge_19_61 : decode gc_c19 61 = .ok (.aload_n 0, 1) := by decide +kernel
theorem ge_19_62 : decode gc_c19 62 = .ok (.getfield 19, 3) := by decide +kernel
theorem ge_19_65 : decode gc_c19 65 = .ok (.aload_n 0, 1) := by decide +kernel
theorem ge_19_66 : decode gc_c19 66 = .ok (.getfield 15, 3) := by decide +kernel
theorem ge_19_69 : decode gc_c19 69 = .ok (.if_icmp .ge (11), 3) := by decide +kernel
theorem ge_19_72 : decode gc_c19 72 = .ok (.new 36, 3) := by decide +kernel
theorem ge_19_75 : decode gc_c19 75 = .ok (.dup, 1) := by decide +kernel
theorem ge_19_76 : decode gc_c19 76 = .ok (.invokespecial 38, 3) := by decide +kernel
theorem ge_19_79 : decode gc_c19 79 = .ok (.athrow, 1) := by decide +kernel
theorem ge_19_80 : decode gc_c19 80 = .ok (.aload_n 3, 1) := by decide +kernel
theorem ge_19_81 : decode gc_c19 81 = .ok (.areturn, 1) := by decide +kernel
theorem ge_20_0 : decode gc_c20 0 = .ok (.aload_n 0, 1) := by decide +kernel
theorem ge_20_1 : decode gc_c20 1 = .ok (.getfield 19, 3) := by decide +kernel
theorem ge_20_4 : decode gc_c20 4 = .ok (.aload_n 0, 1) := by decide +kernel
theorem ge_20_5 : decode gc_c20 5 = .ok (.getfield 15, 3) := by decide +kernel
theorem ge_20_8 : decode gc_c20 8 = .ok (.if_icmp .ge (15), 3) := by decide +kernel
theorem ge_20_11 : decode gc_c20 11 = .ok (.aload_n 0, 1) := by decide +kernel
theorem ge_20_12 : decode gc_c20 12 = .ok (.getfield 9, 3) := by decide +kernel
theorem ge_20_15 : decode gc_c20 15 = .ok (.aload_n 0, 1) := by decide +kernel
theorem ge_20_16 : decode gc_c20 16 = .ok (.getfield 19, 3) := by decide +kernel
theorem ge_20_19 : decode gc_c20 19 = .ok (.caload, 1) := by decide +kernel
theorem ge_20_20 : decode gc_c20 20 = .ok (.goto (4), 3) := by decide +kernel
theorem ge_20_23 : decode gc_c20 23 = .ok (.iconst (0), 1) := by decide +kernel
theorem ge_20_24 : decode gc_c20 24 = .ok (.ireturn, 1) := by decide +kernel
theorem ge_21_0 : decode gc_c21 0 = .ok (.iload_n 0, 1) := by decide +kernel
theorem ge_21_1 : decode gc_c21 1 = .ok (.bipush (65), 2) := by decide +kernel
theorem ge_21_3 : decode gc_c21 3 = .ok (.if_icmp .lt (13), 3) := by decide +kernel
theorem ge_21_6 : decode gc_c21 6 = .ok (.iload_n 0, 1) := by decide +kernel
theorem ge_21_7 : decode gc_c21 7 = .ok (.bipush (69), 2) := by decide +kernel
theorem ge_21_9 : decode gc_c21 9 = .ok (.if_icmp .ge (7), 3) := by decide +kernel
theorem ge_21_12 : decode gc_c21 12 = .ok (.iconst (1), 1) := by decide +kernel
theorem ge_21_13 : decode gc_c21 13 = .ok (.goto (4), 3) := by decide +kernel
theorem ge_21_16 : decode gc_c21 16 = .ok (.iconst (0), 1) := by decide +kernel
theorem ge_21_17 : decode gc_c21 17 = .ok (.ireturn, 1) := by decide +kernel
theorem ge_22_0 : decode gc_c22 0 = .ok (.aload_n 0, 1) := by decide +kernel
theorem ge_22_1 : decode gc_c22 1 = .ok (.iload_n 1, 1) := by decide +kernel
theorem ge_22_2 : decode gc_c22 2 = .ok (.invokevirtual 57, 3) := by decide +kernel
theorem ge_22_5 : decode gc_c22 5 = .ok (.ifCond .ne (11), 3) := by decide +kernel
theorem ge_22_8 : decode gc_c22 8 = .ok (.new 36, 3) := by decide +kernel
theorem ge_22_11 : decode gc_c22 11 = .ok (.dup, 1) := by decide +kernel
theorem ge_22_12 : decode gc_c22 12 = .ok (.invokespecial 38, 3) := by decide +kernel
theorem ge_22_15 : decode gc_c22 15 = .ok (.athrow, 1) := by decide +kernel
theorem ge_22_16 : decode gc_c22 16 = .ok (.return_, 1) := by decide +kernel
theorem ge_23_0 : decode gc_c23 0 = .ok (.aload_n 0, 1) := by decide +kernel
theorem ge_23_1 : decode gc_c23 1 = .ok (.invokevirtual 28, 3) := by decide +kernel
theorem ge_23_4 : decode gc_c23 4 = .ok (.iload_n 1, 1) := by decide +kernel
theorem ge_23_5 : decode gc_c23 5 = .ok (.if_icmp .eq (5), 3) := by decide +kernel
theorem ge_23_8 : decode gc_c23 8 = .ok (.iconst (0), 1) := by decide +kernel
theorem ge_23_9 : decode gc_c23 9 = .ok (.ireturn, 1) := by decide +kernel
theorem ge_23_10 : decode gc_c23 10 = .ok (.aload_n 0, 1) := by decide +kernel
theorem ge_23_11 : decode gc_c23 11 = .ok (.dup, 1) := by decide +kernel
theorem ge_23_12 : decode gc_c23 12 = .ok (.getfield 19, 3) := by decide +kernel
theorem ge_23_15 : decode gc_c23 15 = .ok (.iconst (1), 1) := by decide +kernel
theorem ge_23_16 : decode gc_c23 16 = .ok (.iadd, 1) := by decide +kernel
theorem ge_23_17 : decode gc_c23 17 = .ok (.putfield 19, 3) := by decide +kernel
theorem ge_23_20 : decode gc_c23 20 = .ok (.iconst (1), 1) := by decide +kernel
theorem ge_23_21 : decode gc_c23 21 = .ok (.ireturn, 1) := by decide +kernel
theorem ge_24_0 : decode gc_c24 0 = .ok (.aload_n 0, 1) := by decide +kernel
theorem ge_24_1 : decode gc_c24 1 = .ok (.iload_n 1, 1) := by decide +kernel
theorem ge_24_2 : decode gc_c24 2 = .ok (.invokevirtual 47, 3) := by decide +kernel
theorem ge_24_5 : decode gc_c24 5 = .ok (.astore_n 2, 1) := by decide +kernel
theorem ge_24_6 : decode gc_c24 6 = .ok (.aload_n 0, 1) := by decide +kernel
theorem ge_24_7 : decode gc_c24 7 = .ok (.invokevirtual 28, 3) := by decide +kernel
theorem ge_24_10 : decode gc_c24 10 = .ok (.bipush (47), 2) := by decide +kernel
theorem ge_24_12 : decode gc_c24 12 = .ok (.if_icmp .eq (5), 3) := by decide +kernel
theorem ge_24_15 : decode gc_c24 15 = .ok (.aload_n 2, 1) := by decide +kernel
theorem ge_24_16 : decode gc_c24 16 = .ok (.areturn, 1) := by decide +kernel
theorem ge_24_17 : decode gc_c24 17 = .ok (.new 50, 3) := by decide +kernel
theorem ge_24_20 : decode gc_c24 20 = .ok (.dup, 1) := by decide +kernel
theorem ge_24_21 : decode gc_c24 21 = .ok (.invokespecial 52, 3) := by decide +kernel
theorem ge_24_24 : decode gc_c24 24 = .ok (.astore_n 3, 1) := by decide +kernel
theorem ge_24_25 : decode gc_c24 25 = .ok (.aload_n 3, 1) := by decide +kernel
theorem ge_24_26 : decode gc_c24 26 = .ok (.aload_n 2, 1) := by decide +kernel
theorem ge_24_27 : decode gc_c24 27 = .ok (.invokevirtual 53, 3) := by decide +kernel
theorem ge_24_30 : decode gc_c24 30 = .ok (.iconst (0), 1) := by decide +kernel
theorem ge_24_31 : decode gc_c24 31 = .ok (.istore 4, 2) := by decide +kernel
theorem ge_24_33 : decode gc_c24 33 = .ok (.iload 4, 2) := by decide +kernel
theorem ge_24_35 : decode gc_c24 35 = .ok (.bipush (20), 2) := by decide +kernel
theorem ge_24_37 : decode gc_c24 37 = .ok (.if_icmp .ge (27), 3) := by decide +kernel
theorem ge_24_40 : decode gc_c24 40 = .ok (.aload_n 0, 1) := by decide +kernel
theorem ge_24_41 : decode gc_c24 41 = .ok (.bipush (47), 2) := by decide +kernel
theorem ge_24_43 : decode gc_c24 43 = .ok (.invokevirtual 57, 3) := by decide +kernel
theorem ge_24_46 : decode gc_c24 46 = .ok (.ifCond .eq (18), 3) := by decide +kernel
theorem ge_24_49 : decode gc_c24 49 = .ok (.aload_n 3, 1) := by decide +kernel
theorem ge_24_50 : decode gc_c24 50 = .ok (.aload_n 0, 1) := by decide +kernel
theorem ge_24_51 : decode gc_c24 51 = .ok (.iload_n 1, 1) := by decide +kernel
theorem ge_24_52 : decode gc_c24 52 = .ok (.invokevirtual 47, 3) := by decide +kernel
theorem ge_24_55 : decode gc_c24 55 = .ok (.invokevirtual 53, 3) := by decide +kernel
theorem ge_24_58 : decode gc_c24 58 = .ok (.iinc 4 (1), 3) := by decide +kernel
theorem ge_24_61 : decode gc_c24 61 = .ok (.goto (-28), 3) := by decide +kernel
theorem ge_24_64 : decode gc_c24 64 = .ok (.aload_n 3, 1) := by decide +kernel
theorem ge_24_65 : decode gc_c24 65 = .ok (.areturn, 1) := by decide +kernel
theorem ge_25_0 : decode gc_c25 0 = .ok (.aload_n 0, 1) := by decide +kernel
theorem ge_25_1 : decode gc_c25 1 = .ok (.iload_n 1, 1) := by decide +kernel
theorem ge_25_2 : decode gc_c25 2 = .ok (.invokevirtual 60, 3) := by decide +kernel
theorem ge_25_5 : decode gc_c25 5 = .ok (.astore_n 2, 1) := by decide +kernel
theorem ge_25_6 : decode gc_c25 6 = .ok (.aload_n 0, 1) := by decide +kernel
theorem ge_25_7 : decode gc_c25 7 = .ok (.invokevirtual 28, 3) := by decide +kernel
theorem ge_25_10 : decode gc_c25 10 = .ok (.invokestatic 63, 3) := by decide +kernel
theorem ge_25_13 : decode gc_c25 13 = .ok (.ifCond .eq (5), 3) := by decide +kernel
theorem ge_25_16 : decode gc_c25 16 = .ok (.aload_n 2, 1) := by decide +kernel
theorem ge_25_17 : decode gc_c25 17 = .ok (.areturn, 1) := by decide +kernel
theorem ge_25_18 : decode gc_c25 18 = .ok (.new 66, 3) := by decide +kernel
theorem ge_25_21 : decode gc_c25 21 = .ok (.dup, 1) := by decide +kernel
theorem ge_25_22 : decode gc_c25 22 = .ok (.invokespecial 68, 3) := by decide +kernel
theorem ge_25_25 : decode gc_c25 25 = .ok (.astore_n 3, 1) := by decide +kernel
theorem ge_25_26 : decode gc_c25 26 = .ok (.aload_n 3, 1) := by decide +kernel
theorem ge_25_27 : decode gc_c25 27 = .ok (.aload_n 2, 1) := by decide +kernel
theorem ge_25_28 : decode gc_c25 28 = .ok (.invokevirtual 69, 3) := by decide +kernel
theorem ge_25_31 : decode gc_c25 31 = .ok (.iconst (0), 1) := by decide +kernel
theorem ge_25_32 : decode gc_c25 32 = .ok (.istore 4, 2) := by decide +kernel
theorem ge_25_34 : decode gc_c25 34 = .ok (.iload 4, 2) := by decide +kernel
theorem ge_25_36 : decode gc_c25 36 = .ok (.bipush (20), 2) := by decide +kernel
theorem ge_25_38 : decode gc_c25 38 = .ok (.if_icmp .ge (28), 3) := by decide +kernel
theorem ge_25_41 : decode gc_c25 41 = .ok (.aload_n 0, 1) := by decide +kernel
theorem ge_25_42 : decode gc_c25 42 = .ok (.invokevirtual 28, 3) := by decide +kernel
theorem ge_25_45 : decode gc_c25 45 = .ok (.invokestatic 63, 3) := by decide +kernel
theorem ge_25_48 : decode gc_c25 48 = .ok (.ifCond .ne (18), 3) := by decide +kernel
theorem ge_25_51 : decode gc_c25 51 = .ok (.aload_n 3, 1) := by decide +kernel
theorem ge_25_52 : decode gc_c25 52 = .ok (.aload_n 0, 1) := by decide +kernel
theorem ge_25_53 : decode gc_c25 53 = .ok (.iload_n 1, 1) := by decide +kernel
theorem ge_25_54 : decode gc_c25 54 = .ok (.invokevirtual 60, 3) := by decide +kernel
theorem ge_25_57 : decode gc_c25 57 = .ok (.invokevirtual 69, 3) := by decide +kernel
theorem ge_25_60 : decode gc_c25 60 = .ok (.iinc 4 (1), 3) := by decide +kernel
theorem ge_25_63 : decode gc_c25 63 = .ok (.goto (-29), 3) := by decide +kernel
theorem ge_25_66 : decode gc_c25 66 = .ok (.aload_n 3, 1) := by decide +kernel
theorem ge_25_67 : decode gc_c25 67 = .ok (.areturn, 1) := by decide +kernel
theorem ge_26_0 : decode gc_c26 0 = .ok (.iconst (0), 1) := by decide +kernel
theorem ge_26_1 : decode gc_c26 1 = .ok (.istore_n 2, 1) := by decide +kernel
theorem ge_26_2 : decode gc_c26 2 = .ok (.iconst (1), 1) := by decide +kernel
theorem ge_26_3 : decode gc_c26 3 = .ok (.istore_n 3, 1) := by decide +kernel
theorem ge_26_4 : decode gc_c26 4 = .ok (.aload_n 0, 1) := by decide +kernel
theorem ge_26_5 : decode gc_c26 5 = .ok (.getfield 19, 3) := by decide +kernel
theorem ge_26_8 : decode gc_c26 8 = .ok (.aload_n 0, 1) := by decide +kernel
theorem ge_26_9 : decode gc_c26 9 = .ok (.getfield 15, 3) := by decide +kernel
theorem ge_26_12 : decode gc_c26 12 = .ok (.if_icmp .ge (75), 3) := by decide +kernel
theorem ge_26_15 : decode gc_c26 15 = .ok (.aload_n 0, 1) := by decide +kernel
theorem ge_26_16 : decode gc_c26 16 = .ok (.getfield 9, 3) := by decide +kernel
theorem ge_26_19 : decode gc_c26 19 = .ok (.aload_n 0, 1) := by decide +kernel
theorem ge_26_20 : decode gc_c26 20 = .ok (.getfield 19, 3) := by decide +kernel
theorem ge_26_23 : decode gc_c26 23 = .ok (.caload, 1) := by decide +kernel
theorem ge_26_24 : decode gc_c26 24 = .ok (.bipush (38), 2) := by decide +kernel
theorem ge_26_26 : decode gc_c26 26 = .ok (.if_icmp .eq (17), 3) := by decide +kernel
theorem ge_26_29 : decode gc_c26 29 = .ok (.aload_n 0, 1) := by decide +kernel
theorem ge_26_30 : decode gc_c26 30 = .ok (.getfield 9, 3) := by decide +kernel
theorem ge_26_33 : decode gc_c26 33 = .ok (.aload_n 0, 1) := by decide +kernel
theorem ge_26_34 : decode gc_c26 34 = .ok (.getfield 19, 3) := by decide +kernel
theorem ge_26_37 : decode gc_c26 37 = .ok (.caload, 1) := by decide +kernel
theorem ge_26_38 : decode gc_c26 38 = .ok (.bipush (33), 2) := by decide +kernel
theorem ge_26_40 : decode gc_c26 40 = .ok (.if_icmp .ne (47), 3) := by decide +kernel
theorem ge_26_43 : decode gc_c26 43 = .ok (.iconst (1), 1) := by decide +kernel
theorem ge_26_44 : decode gc_c26 44 = .ok (.istore_n 2, 1) := by decide +kernel
theorem ge_26_45 : decode gc_c26 45 = .ok (.iload_n 3, 1) := by decide +kernel
theorem ge_26_46 : decode gc_c26 46 = .ok (.aload_n 0, 1) := by decide +kernel
theorem ge_26_47 : decode gc_c26 47 = .ok (.getfield 9, 3) := by decide +kernel
theorem ge_26_50 : decode gc_c26 50 = .ok (.aload_n 0, 1) := by decide +kernel
theorem ge_26_51 : decode gc_c26 51 = .ok (.getfield 19, 3) := by decide +kernel
theorem ge_26_54 : decode gc_c26 54 = .ok (.caload, 1) := by decide +kernel
theorem ge_26_55 : decode gc_c26 55 = .ok (.bipush (38), 2) := by decide +kernel
theorem ge_26_57 : decode gc_c26 57 = .ok (.if_icmp .ne (7), 3) := by decide +kernel
theorem ge_26_60 : decode gc_c26 60 = .ok (.iconst (1), 1) := by decide +kernel
theorem ge_26_61 : decode gc_c26 61 = .ok (.goto (4), 3) := by decide +kernel
theorem ge_26_64 : decode gc_c26 64 = .ok (.iconst (0), 1) := by decide +kernel
theorem ge_26_65 : decode gc_c26 65 = .ok (.if_icmp .ne (7), 3) := by decide +kernel
theorem ge_26_68 : decode gc_c26 68 = .ok (.iconst (1), 1) := by decide +kernel
theorem ge_26_69 : decode gc_c26 69 = .ok (.goto (4), 3) := by decide +kernel
theorem ge_26_72 : decode gc_c26 72 = .ok (.iconst (0), 1) := by decide +kernel
theorem ge_26_73 : decode gc_c26 73 = .ok (.istore_n 3, 1) := by decide +kernel
theorem ge_26_74 : decode gc_c26 74 = .ok (.aload_n 0, 1) := by decide +kernel
theorem ge_26_75 : decode gc_c26 75 = .ok (.dup, 1) := by decide +kernel
theorem ge_26_76 : decode gc_c26 76 = .ok (.getfield 19, 3) := by decide +kernel
theorem ge_26_79 : decode gc_c26 79 = .ok (.iconst (1), 1) := by decide +kernel
theorem ge_26_80 : decode gc_c26 80 = .ok (.iadd, 1) := by decide +kernel
theorem ge_26_81 : decode gc_c26 81 = .ok (.putfield 19, 3) := by decide +kernel
theorem ge_26_84 : decode gc_c26 84 = .ok (.goto (-80), 3) := by decide +kernel
theorem ge_26_87 : decode gc_c26 87 = .ok (.aload_n 0, 1) := by decide +kernel
theorem ge_26_88 : decode gc_c26 88 = .ok (.iload_n 1, 1) := by decide +kernel
theorem ge_26_89 : decode gc_c26 89 = .ok (.invokevirtual 70, 3) := by decide +kernel
theorem ge_26_92 : decode gc_c26 92 = .ok (.astore 4, 2) := by decide +kernel
theorem ge_26_94 : decode gc_c26 94 = .ok (.iload_n 2, 1) := by decide +kernel
theorem ge_26_95 : decode gc_c26 95 = .ok (.ifCond .eq (16), 3) := by decide +kernel
theorem ge_26_98 : decode gc_c26 98 = .ok (.new 73, 3) := by decide +kernel
theorem ge_26_101 : decode gc_c26 101 = .ok (.dup, 1) := by decide +kernel
theorem ge_26_102 : decode gc_c26 102 = .ok (.aload 4, 2) := by decide +kernel
theorem ge_26_104 : decode gc_c26 104 = .ok (.iload_n 3, 1) := by decide +kernel
theorem ge_26_105 : decode gc_c26 105 = .ok (.invokespecial 75, 3) := by decide +kernel
theorem ge_26_108 : decode gc_c26 108 = .ok (.goto (5), 3) := by decide +kernel
theorem ge_26_111 : decode gc_c26 111 = .ok (.aload 4, 2) := by decide +kernel
theorem ge_26_113 : decode gc_c26 113 = .ok (.areturn, 1) := by decide +kernel
theorem ge_27_0 : decode gc_c27 0 = .ok (.aload_n 0, 1) := by decide +kernel
theorem ge_27_1 : decode gc_c27 1 = .ok (.iload_n 1, 1) := by decide +kernel
theorem ge_27_2 : decode gc_c27 2 = .ok (.invokevirtual 78, 3) := by decide +kernel
theorem ge_27_5 : decode gc_c27 5 = .ok (.astore_n 2, 1) := by decide +kernel
theorem ge_27_6 : decode gc_c27 6 = .ok (.aload_n 0, 1) := by decide +kernel
theorem ge_27_7 : decode gc_c27 7 = .ok (.bipush (42), 2) := by decide +kernel
theorem ge_27_9 : decode gc_c27 9 = .ok (.invokevirtual 57, 3) := by decide +kernel
theorem ge_27_12 : decode gc_c27 12 = .ok (.ifCond .eq (15), 3) := by decide +kernel
theorem ge_27_15 : decode gc_c27 15 = .ok (.new 81, 3) := by decide +kernel
theorem ge_27_18 : decode gc_c27 18 = .ok (.dup, 1) := by decide +kernel
theorem ge_27_19 : decode gc_c27 19 = .ok (.aload_n 2, 1) := by decide +kernel
theorem ge_27_20 : decode gc_c27 20 = .ok (.iconst (0), 1) := by decide +kernel
theorem ge_27_21 : decode gc_c27 21 = .ok (.bipush (10), 2) := by decide +kernel
theorem ge_27_23 : decode gc_c27 23 = .ok (.invokespecial 83, 3) := by decide +kernel
theorem ge_27_26 : decode gc_c27 26 = .ok (.areturn, 1) := by decide +kernel
theorem ge_27_27 : decode gc_c27 27 = .ok (.aload_n 0, 1) := by decide +kernel
theorem ge_27_28 : decode gc_c27 28 = .ok (.bipush (43), 2) := by decide +kernel
theorem ge_27_30 : decode gc_c27 30 = .ok (.invokevirtual 57, 3) := by decide +kernel
theorem ge_27_33 : decode gc_c27 33 = .ok (.ifCond .eq (15), 3) := by decide +kernel
theorem ge_27_36 : decode gc_c27 36 = .ok (.new 81, 3) := by decide +kernel
theorem ge_27_39 : decode gc_c27 39 = .ok (.dup, 1) := by decide +kernel
theorem ge_27_40 : decode gc_c27 40 = .ok (.aload_n 2, 1) := by decide +kernel
theorem ge_27_41 : decode gc_c27 41 = .ok (.iconst (1), 1) := by decide +kernel
theorem ge_27_42 : decode gc_c27 42 = .ok (.bipush (10), 2) := by decide +kernel
theorem ge_27_44 : decode gc_c27 44 = .ok (.invokespecial 83, 3) := by decide +kernel
theorem ge_27_47 : decode gc_c27 47 = .ok (.areturn, 1) := by decide +kernel
theorem ge_27_48 : decode gc_c27 48 = .ok (.aload_n 0, 1) := by decide +kernel
theorem ge_27_49 : decode gc_c27 49 = .ok (.bipush (63), 2) := by decide +kernel
theorem ge_27_51 : decode gc_c27 51 = .ok (.invokevirtual 57, 3) := by decide +kernel
theorem ge_27_54 : decode gc_c27 54 = .ok (.ifCond .eq (14), 3) := by decide +kernel
theorem ge_27_57 : decode gc_c27 57 = .ok (.new 81, 3) := by decide +kernel
theorem ge_27_60 : decode gc_c27 60 = .ok (.dup, 1) := by decide +kernel
theorem ge_27_61 : decode gc_c27 61 = .ok (.aload_n 2, 1) := by decide +kernel
theorem ge_27_62 : decode gc_c27 62 = .ok (.iconst (0), 1) := by decide +kernel
theorem ge_27_63 : decode gc_c27 63 = .ok (.iconst (1), 1) := by decide +kernel
theorem ge_27_64 : decode gc_c27 64 = .ok (.invokespecial 83, 3) := by decide +kernel
theorem ge_27_67 : decode gc_c27 67 = .ok (.areturn, 1) := by decide +kernel
theorem ge_27_68 : decode gc_c27 68 = .ok (.aload_n 2, 1) := by decide +kernel
theorem ge_27_69 : decode gc_c27 69 = .ok (.areturn, 1) := by decide +kernel
theorem ge_28_0 : decode gc_c28 0 = .ok (.aload_n 0, 1) := by decide +kernel
theorem ge_28_1 : decode gc_c28 1 = .ok (.invokevirtual 28, 3) := by decide +kernel
theorem ge_28_4 : decode gc_c28 4 = .ok (.istore_n 2, 1) := by decide +kernel
theorem ge_28_5 : decode gc_c28 5 = .ok (.iload_n 2, 1) := by decide +kernel
theorem ge_28_6 : decode gc_c28 6 = .ok (.bipush (40), 2) := by decide +kernel
theorem ge_28_8 : decode gc_c28 8 = .ok (.if_icmp .eq (9), 3) := by decide +kernel
theorem ge_28_11 : decode gc_c28 11 = .ok (.iload_n 2, 1) := by decide +kernel
theorem ge_28_12 : decode gc_c28 12 = .ok (.bipush (123), 2) := by decide +kernel
theorem ge_28_14 : decode gc_c28 14 = .ok (.if_icmp .ne (9), 3) := by decide +kernel
theorem ge_28_17 : decode gc_c28 17 = .ok (.aload_n 0, 1) := by decide +kernel
theorem ge_28_18 : decode gc_c28 18 = .ok (.iload_n 1, 1) := by decide +kernel
theorem ge_28_19 : decode gc_c28 19 = .ok (.invokevirtual 86, 3) := by decide +kernel
theorem ge_28_22 : decode gc_c28 22 = .ok (.areturn, 1) := by decide +kernel
theorem ge_28_23 : decode gc_c28 23 = .ok (.iload_n 2, 1) := by decide +kernel
theorem ge_28_24 : decode gc_c28 24 = .ok (.bipush (91), 2) := by decide +kernel
theorem ge_28_26 : decode gc_c28 26 = .ok (.if_icmp .ne (8), 3) := by decide +kernel
theorem ge_28_29 : decode gc_c28 29 = .ok (.aload_n 0, 1) := by decide +kernel
theorem ge_28_30 : decode gc_c28 30 = .ok (.invokevirtual 89, 3) := by decide +kernel
theorem ge_28_33 : decode gc_c28 33 = .ok (.areturn, 1) := by decide +kernel
theorem ge_28_34 : decode gc_c28 34 = .ok (.iload_n 2, 1) := by decide +kernel
theorem ge_28_35 : decode gc_c28 35 = .ok (.invokestatic 93, 3) := by decide +kernel
theorem ge_28_38 : decode gc_c28 38 = .ok (.ifCond .ne (24), 3) := by decide +kernel
theorem ge_28_41 : decode gc_c28 41 = .ok (.iload_n 2, 1) := by decide +kernel
theorem ge_28_42 : decode gc_c28 42 = .ok (.invokestatic 32, 3) := by decide +kernel
theorem ge_28_45 : decode gc_c28 45 = .ok (.ifCond .ne (17), 3) := by decide +kernel
theorem ge_28_48 : decode gc_c28 48 = .ok (.iload_n 2, 1) := by decide +kernel
theorem ge_28_49 : decode gc_c28 49 = .ok (.bipush (46), 2) := by decide +kernel
theorem ge_28_51 : decode gc_c28 51 = .ok (.if_icmp .eq (11), 3) := by decide +kernel
theorem ge_28_54 : decode gc_c28 54 = .ok (.new 36, 3) := by decide +kernel
theorem ge_28_57 : decode gc_c28 57 = .ok (.dup, 1) := by decide +kernel
theorem ge_28_58 : decode gc_c28 58 = .ok (.invokespecial 38, 3) := by decide +kernel
theorem ge_28_61 : decode gc_c28 61 = .ok (.athrow, 1) := by decide +kernel
theorem ge_28_62 : decode gc_c28 62 = .ok (.aload_n 0, 1) := by decide +kernel
theorem ge_28_63 : decode gc_c28 63 = .ok (.dup, 1) := by decide +kernel
theorem ge_28_64 : decode gc_c28 64 = .ok (.getfield 19, 3) := by decide +kernel
theorem ge_28_67 : decode gc_c28 67 = .ok (.iconst (1), 1) := by decide +kernel
theorem ge_28_68 : decode gc_c28 68 = .ok (.iadd, 1) := by decide +kernel
theorem ge_28_69 : decode gc_c28 69 = .ok (.putfield 19, 3) := by decide +kernel
theorem ge_28_72 : decode gc_c28 72 = .ok (.iload_n 2, 1) := by decide +kernel
theorem ge_28_73 : decode gc_c28 73 = .ok (.bipush (46), 2) := by decide +kernel
theorem ge_28_75 : decode gc_c28 75 = .ok (.if_icmp .ne (15), 3) := by decide +kernel
theorem ge_28_78 : decode gc_c28 78 = .ok (.new 96, 3) := by decide +kernel
theorem ge_28_81 : decode gc_c28 81 = .ok (.dup, 1) := by decide +kernel
theorem ge_28_82 : decode gc_c28 82 = .ok (.iconst (0), 1) := by decide +kernel
theorem ge_28_83 : decode gc_c28 83 = .ok (.sipush (255), 3) := by decide +kernel
theorem ge_28_86 : decode gc_c28 86 = .ok (.invokespecial 98, 3) := by decide +kernel
theorem ge_28_89 : decode gc_c28 89 = .ok (.areturn, 1) := by decide +kernel
theorem ge_28_90 : decode gc_c28 90 = .ok (.iload_n 2, 1) := by decide +kernel
theorem ge_28_91 : decode gc_c28 91 = .ok (.invokestatic 32, 3) := by decide +kernel
theorem ge_28_94 : decode gc_c28 94 = .ok (.ifCond .eq (17), 3) := by decide +kernel
theorem ge_28_97 : decode gc_c28 97 = .ok (.new 101, 3) := by decide +kernel
theorem ge_28_100 : decode gc_c28 100 = .ok (.dup, 1) := by decide +kernel
theorem ge_28_101 : decode gc_c28 101 = .ok (.iload_n 2, 1) := by decide +kernel
theorem ge_28_102 : decode gc_c28 102 = .ok (.bipush (65), 2) := by decide +kernel
theorem ge_28_104 : decode gc_c28 104 = .ok (.isub, 1) := by decide +kernel
theorem ge_28_105 : decode gc_c28 105 = .ok (.invokespecial 103, 3) := by decide +kernel
theorem ge_28_108 : decode gc_c28 108 = .ok (.goto (12), 3) := by decide +kernel
theorem ge_28_111 : decode gc_c28 111 = .ok (.new 96, 3) := by decide +kernel
theorem ge_28_114 : decode gc_c28 114 = .ok (.dup, 1) := by decide +kernel
theorem ge_28_115 : decode gc_c28 115 = .ok (.iload_n 2, 1) := by decide +kernel
theorem ge_28_116 : decode gc_c28 116 = .ok (.iload_n 2, 1) := by decide +kernel
theorem ge_28_117 : decode gc_c28 117 = .ok (.invokespecial 98, 3) := by decide +kernel
theorem ge_28_120 : decode gc_c28 120 = .ok (.areturn, 1) := by decide +kernel
theorem ge_29_0 : decode gc_c29 0 = .ok (.iload_n 1, 1) := by decide +kernel
theorem ge_29_1 : decode gc_c29 1 = .ok (.bipush (6), 2) := by decide +kernel
theorem ge_29_3 : decode gc_c29 3 = .ok (.if_icmp .lt (11), 3) := by decide +kernel
theorem ge_29_6 : decode gc_c29 6 = .ok (.new 36, 3) := by decide +kernel
theorem ge_29_9 : decode gc_c29 9 = .ok (.dup, 1) := by decide +kernel
theorem ge_29_10 : decode gc_c29 10 = .ok (.invokespecial 38, 3) := by decide +kernel
theorem ge_29_13 : decode gc_c29 13 = .ok (.athrow, 1) := by decide +kernel
theorem ge_29_14 : decode gc_c29 14 = .ok (.aload_n 0, 1) := by decide +kernel
theorem ge_29_15 : decode gc_c29 15 = .ok (.bipush (40), 2) := by decide +kernel
theorem ge_29_17 : decode gc_c29 17 = .ok (.invokevirtual 57, 3) := by decide +kernel
theorem ge_29_20 : decode gc_c29 20 = .ok (.ifCond .eq (19), 3) := by decide +kernel
theorem ge_29_23 : decode gc_c29 23 = .ok (.aload_n 0, 1) := by decide +kernel
theorem ge_29_24 : decode gc_c29 24 = .ok (.iload_n 1, 1) := by decide +kernel
theorem ge_29_25 : decode gc_c29 25 = .ok (.iconst (1), 1) := by decide +kernel
theorem ge_29_26 : decode gc_c29 26 = .ok (.iadd, 1) := by decide +kernel
theorem ge_29_27 : decode gc_c29 27 = .ok (.invokevirtual 43, 3) := by decide +kernel
theorem ge_29_30 : decode gc_c29 30 = .ok (.astore_n 2, 1) := by decide +kernel
theorem ge_29_31 : decode gc_c29 31 = .ok (.aload_n 0, 1) := by decide +kernel
theorem ge_29_32 : decode gc_c29 32 = .ok (.bipush (41), 2) := by decide +kernel
theorem ge_29_34 : decode gc_c29 34 = .ok (.invokevirtual 39, 3) := by decide +kernel
theorem ge_29_37 : decode gc_c29 37 = .ok (.aload_n 2, 1) := by decide +kernel
theorem ge_29_38 : decode gc_c29 38 = .ok (.areturn, 1) := by decide +kernel
theorem ge_29_39 : decode gc_c29 39 = .ok (.aload_n 0, 1) := by decide +kernel
theorem ge_29_40 : decode gc_c29 40 = .ok (.bipush (123), 2) := by decide +kernel
theorem ge_29_42 : decode gc_c29 42 = .ok (.invokevirtual 39, 3) := by decide +kernel
theorem ge_29_45 : decode gc_c29 45 = .ok (.aload_n 0, 1) := by decide +kernel
theorem ge_29_46 : decode gc_c29 46 = .ok (.bipush (125), 2) := by decide +kernel
theorem ge_29_48 : decode gc_c29 48 = .ok (.invokevirtual 57, 3) := by decide +kernel
theorem ge_29_51 : decode gc_c29 51 = .ok (.ifCond .eq (12), 3) := by decide +kernel
theorem ge_29_54 : decode gc_c29 54 = .ok (.new 106, 3) := by decide +kernel
theorem ge_29_57 : decode gc_c29 57 = .ok (.dup, 1) := by decide +kernel
theorem ge_29_58 : decode gc_c29 58 = .ok (.aconst_null, 1) := by decide +kernel
theorem ge_29_59 : decode gc_c29 59 = .ok (.invokespecial 108, 3) := by decide +kernel
theorem ge_29_62 : decode gc_c29 62 = .ok (.areturn, 1) := by decide +kernel
theorem ge_29_63 : decode gc_c29 63 = .ok (.aload_n 0, 1) := by decide +kernel
theorem ge_29_64 : decode gc_c29 64 = .ok (.iload_n 1, 1) := by decide +kernel
theorem ge_29_65 : decode gc_c29 65 = .ok (.iconst (1), 1) := by decide +kernel
theorem ge_29_66 : decode gc_c29 66 = .ok (.iadd, 1) := by decide +kernel
theorem ge_29_67 : decode gc_c29 67 = .ok (.invokevirtual 43, 3) := by decide +kernel
theorem ge_29_70 : decode gc_c29 70 = .ok (.astore_n 2, 1) := by decide +kernel
theorem ge_29_71 : decode gc_c29 71 = .ok (.aload_n 0, 1) := by decide +kernel
theorem ge_29_72 : decode gc_c29 72 = .ok (.bipush (125), 2) := by decide +kernel
theorem ge_29_74 : decode gc_c29 74 = .ok (.invokevirtual 39, 3) := by decide +kernel
theorem ge_29_77 : decode gc_c29 77 = .ok (.new 106, 3) := by decide +kernel
theorem ge_29_80 : decode gc_c29 80 = .ok (.dup, 1) := by decide +kernel
theorem ge_29_81 : decode gc_c29 81 = .ok (.aload_n 2, 1) := by decide +kernel
theorem ge_29_82 : decode gc_c29 82 = .ok (.invokespecial 108, 3) := by decide +kernel
theorem ge_29_85 : decode gc_c29 85 = .ok (.areturn, 1) := by decide +kernel
theorem ge_30_0 : decode gc_c30 0 = .ok (.aload_n 0, 1) := by decide +kernel
theorem ge_30_1 : decode gc_c30 1 = .ok (.invokespecial 1, 3) := by decide +kernel
theorem ge_30_4 : decode gc_c30 4 = .ok (.aload_n 0, 1) := by decide +kernel
theorem ge_30_5 : decode gc_c30 5 = .ok (.aload_n 1, 1) := by decide +kernel
theorem ge_30_6 : decode gc_c30 6 = .ok (.putfield 7, 3) := by decide +kernel
theorem ge_30_9 : decode gc_c30 9 = .ok (.return_, 1) := by decide +kernel
theorem ge_31_0 : decode gc_c31 0 = .ok (.aload_n 0, 1) := by decide +kernel
theorem ge_31_1 : decode gc_c31 1 = .ok (.invokespecial 1, 3) := by decide +kernel
theorem ge_31_4 : decode gc_c31 4 = .ok (.return_, 1) := by decide +kernel
theorem ge_32_0 : decode gc_c32 0 = .ok (.aload_n 0, 1) := by decide +kernel
theorem ge_32_1 : decode gc_c32 1 = .ok (.bipush (91), 2) := by decide +kernel
theorem ge_32_3 : decode gc_c32 3 = .ok (.invokevirtual 39, 3) := by decide +kernel
theorem ge_32_6 : decode gc_c32 6 = .ok (.aload_n 0, 1) := by decide +kernel
theorem ge_32_7 : decode gc_c32 7 = .ok (.invokevirtual 110, 3) := by decide +kernel
theorem ge_32_10 : decode gc_c32 10 = .ok (.istore_n 1, 1) := by decide +kernel
theorem ge_32_11 : decode gc_c32 11 = .ok (.aload_n 0, 1) := by decide +kernel
theorem ge_32_12 : decode gc_c32 12 = .ok (.bipush (45), 2) := by decide +kernel
theorem ge_32_14 : decode gc_c32 14 = .ok (.invokevirtual 39, 3) := by decide +kernel
theorem ge_32_17 : decode gc_c32 17 = .ok (.aload_n 0, 1) := by decide +kernel
theorem ge_32_18 : decode gc_c32 18 = .ok (.invokevirtual 110, 3) := by decide +kernel
theorem ge_32_21 : decode gc_c32 21 = .ok (.istore_n 2, 1) := by decide +kernel
theorem ge_32_22 : decode gc_c32 22 = .ok (.aload_n 0, 1) := by decide +kernel
theorem ge_32_23 : decode gc_c32 23 = .ok (.bipush (93), 2) := by decide +kernel
theorem ge_32_25 : decode gc_c32 25 = .ok (.invokevirtual 39, 3) := by decide +kernel
theorem ge_32_28 : decode gc_c32 28 = .ok (.new 96, 3) := by decide +kernel
theorem ge_32_31 : decode gc_c32 31 = .ok (.dup, 1) := by decide +kernel
theorem ge_32_32 : decode gc_c32 32 = .ok (.iload_n 1, 1) := by decide +kernel
theorem ge_32_33 : decode gc_c32 33 = .ok (.iload_n 2, 1) := by decide +kernel
theorem ge_32_34 : decode gc_c32 34 = .ok (.invokespecial 98, 3) := by decide +kernel
theorem ge_32_37 : decode gc_c32 37 = .ok (.areturn, 1) := by decide +kernel
theorem ge_33_0 : decode gc_c33 0 = .ok (.aload_n 0, 1) := by decide +kernel
theorem ge_33_1 : decode gc_c33 1 = .ok (.invokevirtual 28, 3) := by decide +kernel
theorem ge_33_4 : decode gc_c33 4 = .ok (.istore_n 1, 1) := by decide +kernel
theorem ge_33_5 : decode gc_c33 5 = .ok (.iload_n 1, 1) := by decide +kernel
theorem ge_33_6 : decode gc_c33 6 = .ok (.invokestatic 93, 3) := by decide +kernel
theorem ge_33_9 : decode gc_c33 9 = .ok (.ifCond .ne (11), 3) := by decide +kernel
theorem ge_33_12 : decode gc_c33 12 = .ok (.new 36, 3) := by decide +kernel
theorem ge_33_15 : decode gc_c33 15 = .ok (.dup, 1) := by decide +kernel
theorem ge_33_16 : decode gc_c33 16 = .ok (.invokespecial 38, 3) := by decide +kernel
theorem ge_33_19 : decode gc_c33 19 = .ok (.athrow, 1) := by decide +kernel
theorem ge_33_20 : decode gc_c33 20 = .ok (.aload_n 0, 1) := by decide +kernel
theorem ge_33_21 : decode gc_c33 21 = .ok (.dup, 1) := by decide +kernel
theorem ge_33_22 : decode gc_c33 22 = .ok (.getfield 19, 3) := by decide +kernel
theorem ge_33_25 : decode gc_c33 25 = .ok (.iconst (1), 1) := by decide +kernel
theorem ge_33_26 : decode gc_c33 26 = .ok (.iadd, 1) := by decide +kernel
theorem ge_33_27 : decode gc_c33 27 = .ok (.putfield 19, 3) := by decide +kernel
theorem ge_33_30 : decode gc_c33 30 = .ok (.iload_n 1, 1) := by decide +kernel
theorem ge_33_31 : decode gc_c33 31 = .ok (.ireturn, 1) := by decide +kernel
theorem ge_34_0 : decode gc_c34 0 = .ok (.iload_n 0, 1) := by decide +kernel
theorem ge_34_1 : decode gc_c34 1 = .ok (.bipush (97), 2) := by decide +kernel
theorem ge_34_3 : decode gc_c34 3 = .ok (.if_icmp .lt (9), 3) := by decide +kernel
theorem ge_34_6 : decode gc_c34 6 = .ok (.iload_n 0, 1) := by decide +kernel
theorem ge_34_7 : decode gc_c34 7 = .ok (.bipush (122), 2) := by decide +kernel
theorem ge_34_9 : decode gc_c34 9 = .ok (.if_icmp .le (15), 3) := by decide +kernel
theorem ge_34_12 : decode gc_c34 12 = .ok (.iload_n 0, 1) := by decide +kernel
theorem ge_34_13 : decode gc_c34 13 = .ok (.bipush (48), 2) := by decide +kernel
theorem ge_34_15 : decode gc_c34 15 = .ok (.if_icmp .lt (13), 3) := by decide +kernel
theorem ge_34_18 : decode gc_c34 18 = .ok (.iload_n 0, 1) := by decide +kernel
theorem ge_34_19 : decode gc_c34 19 = .ok (.bipush (57), 2) := by decide +kernel
theorem ge_34_21 : decode gc_c34 21 = .ok (.if_icmp .gt (7), 3) := by decide +kernel
theorem ge_34_24 : decode gc_c34 24 = .ok (.iconst (1), 1) := by decide +kernel
theorem ge_34_25 : decode gc_c34 25 = .ok (.goto (4), 3) := by decide +kernel
theorem ge_34_28 : decode gc_c34 28 = .ok (.iconst (0), 1) := by decide +kernel
theorem ge_34_29 : decode gc_c34 29 = .ok (.ireturn, 1) := by decide +kernel
theorem ge_35_0 : decode gc_c35 0 = .ok (.aload_n 0, 1) := by decide +kernel
theorem ge_35_1 : decode gc_c35 1 = .ok (.invokespecial 1, 3) := by decide +kernel
theorem ge_35_4 : decode gc_c35 4 = .ok (.aload_n 0, 1) := by decide +kernel
theorem ge_35_5 : decode gc_c35 5 = .ok (.iload_n 1, 1) := by decide +kernel
theorem ge_35_6 : decode gc_c35 6 = .ok (.putfield 7, 3) := by decide +kernel
theorem ge_35_9 : decode gc_c35 9 = .ok (.aload_n 0, 1) := by decide +kernel
theorem ge_35_10 : decode gc_c35 10 = .ok (.iload_n 2, 1) := by decide +kernel
theorem ge_35_11 : decode gc_c35 11 = .ok (.putfield 13, 3) := by decide +kernel
theorem ge_35_14 : decode gc_c35 14 = .ok (.return_, 1) := by decide +kernel
theorem ge_36_0 : decode gc_c36 0 = .ok (.aload_n 0, 1) := by decide +kernel
theorem ge_36_1 : decode gc_c36 1 = .ok (.invokespecial 1, 3) := by decide +kernel
theorem ge_36_4 : decode gc_c36 4 = .ok (.aload_n 0, 1) := by decide +kernel
theorem ge_36_5 : decode gc_c36 5 = .ok (.iload_n 1, 1) := by decide +kernel
theorem ge_36_6 : decode gc_c36 6 = .ok (.putfield 7, 3) := by decide +kernel
theorem ge_36_9 : decode gc_c36 9 = .ok (.return_, 1) := by decide +kernel
theorem ge_37_0 : decode gc_c37 0 = .ok (.aload_n 0, 1) := by decide +kernel
theorem ge_37_1 : decode gc_c37 1 = .ok (.invokespecial 3, 3) := by decide +kernel
theorem ge_37_4 : decode gc_c37 4 = .ok (.aload_n 0, 1) := by decide +kernel
theorem ge_37_5 : decode gc_c37 5 = .ok (.aload_n 1, 1) := by decide +kernel
theorem ge_37_6 : decode gc_c37 6 = .ok (.putfield 9, 3) := by decide +kernel
theorem ge_37_9 : decode gc_c37 9 = .ok (.aload_n 0, 1) := by decide +kernel
theorem ge_37_10 : decode gc_c37 10 = .ok (.iload_n 2, 1) := by decide +kernel
theorem ge_37_11 : decode gc_c37 11 = .ok (.putfield 15, 3) := by decide +kernel
theorem ge_37_14 : decode gc_c37 14 = .ok (.aload_n 0, 1) := by decide +kernel
theorem ge_37_15 : decode gc_c37 15 = .ok (.iload_n 3, 1) := by decide +kernel
theorem ge_37_16 : decode gc_c37 16 = .ok (.putfield 19, 3) := by decide +kernel
theorem ge_37_19 : decode gc_c37 19 = .ok (.return_, 1) := by decide +kernel
theorem ge_38_0 : decode gc_c38 0 = .ok (.aload_n 0, 1) := by decide +kernel
theorem ge_38_1 : decode gc_c38 1 = .ok (.invokespecial 3, 3) := by decide +kernel
theorem ge_38_4 : decode gc_c38 4 = .ok (.aload_n 0, 1) := by decide +kernel
theorem ge_38_5 : decode gc_c38 5 = .ok (.aload_n 1, 1) := by decide +kernel
theorem ge_38_6 : decode gc_c38 6 = .ok (.putfield 9, 3) := by decide +kernel
theorem ge_38_9 : decode gc_c38 9 = .ok (.aload_n 0, 1) := by decide +kernel
theorem ge_38_10 : decode gc_c38 10 = .ok (.iload_n 2, 1) := by decide +kernel
theorem ge_38_11 : decode gc_c38 11 = .ok (.putfield 15, 3) := by decide +kernel
theorem ge_38_14 : decode gc_c38 14 = .ok (.return_, 1) := by decide +kernel
theorem ge_39_0 : decode gc_c39 0 = .ok (.iload_n 0, 1) := by decide +kernel
theorem ge_39_1 : decode gc_c39 1 = .ok (.ifCond .eq (21), 3) := by decide +kernel
theorem ge_39_4 : decode gc_c39 4 = .ok (.iload_n 0, 1) := by decide +kernel
theorem ge_39_5 : decode gc_c39 5 = .ok (.bipush (47), 2) := by decide +kernel
theorem ge_39_7 : decode gc_c39 7 = .ok (.if_icmp .eq (15), 3) := by decide +kernel
theorem ge_39_10 : decode gc_c39 10 = .ok (.iload_n 0, 1) := by decide +kernel
theorem ge_39_11 : decode gc_c39 11 = .ok (.bipush (41), 2) := by decide +kernel
theorem ge_39_13 : decode gc_c39 13 = .ok (.if_icmp .eq (9), 3) := by decide +kernel
theorem ge_39_16 : decode gc_c39 16 = .ok (.iload_n 0, 1) := by decide +kernel
theorem ge_39_17 : decode gc_c39 17 = .ok (.bipush (125), 2) := by decide +kernel
theorem ge_39_19 : decode gc_c39 19 = .ok (.if_icmp .ne (7), 3) := by decide +kernel
theorem ge_39_22 : decode gc_c39 22 = .ok (.iconst (1), 1) := by decide +kernel
theorem ge_39_23 : decode gc_c39 23 = .ok (.goto (4), 3) := by decide +kernel
theorem ge_39_26 : decode gc_c39 26 = .ok (.iconst (0), 1) := by decide +kernel
theorem ge_39_27 : decode gc_c39 27 = .ok (.ireturn, 1) := by decide +kernel
theorem ge_40_0 : decode gc_c40 0 = .ok (.aload_n 0, 1) := by decide +kernel
theorem ge_40_1 : decode gc_c40 1 = .ok (.invokespecial 3, 3) := by decide +kernel
theorem ge_40_4 : decode gc_c40 4 = .ok (.aload_n 0, 1) := by decide +kernel
theorem ge_40_5 : decode gc_c40 5 = .ok (.new 9, 3) := by decide +kernel
theorem ge_40_8 : decode gc_c40 8 = .ok (.dup, 1) := by decide +kernel
theorem ge_40_9 : decode gc_c40 9 = .ok (.invokespecial 11, 3) := by decide +kernel
theorem ge_40_12 : decode gc_c40 12 = .ok (.putfield 12, 3) := by decide +kernel
theorem ge_40_15 : decode gc_c40 15 = .ok (.return_, 1) := by decide +kernel
theorem ge_41_0 : decode gc_c41 0 = .ok (.aload_n 0, 1) := by decide +kernel
theorem ge_41_1 : decode gc_c41 1 = .ok (.getfield 12, 3) := by decide +kernel
theorem ge_41_4 : decode gc_c41 4 = .ok (.aload_n 1, 1) := by decide +kernel
theorem ge_41_5 : decode gc_c41 5 = .ok (.invokeinterface 18 2, 5) := by decide +kernel
theorem ge_41_10 : decode gc_c41 10 = .ok (.pop, 1) := by decide +kernel
theorem ge_41_11 : decode gc_c41 11 = .ok (.return_, 1) := by decide +kernel
theorem ge_42_0 : decode gc_c42 0 = .ok (.aload_n 0, 1) := by decide +kernel
theorem ge_42_1 : decode gc_c42 1 = .ok (.invokespecial 3, 3) := by decide +kernel
theorem ge_42_4 : decode gc_c42 4 = .ok (.aload_n 0, 1) := by decide +kernel
theorem ge_42_5 : decode gc_c42 5 = .ok (.new 9, 3) := by decide +kernel
theorem ge_42_8 : decode gc_c42 8 = .ok (.dup, 1) := by decide +kernel
theorem ge_42_9 : decode gc_c42 9 = .ok (.invokespecial 11, 3) := by decide +kernel
theorem ge_42_12 : decode gc_c42 12 = .ok (.putfield 12, 3) := by decide +kernel
theorem ge_42_15 : decode gc_c42 15 = .ok (.return_, 1) := by decide +kernel
theorem ge_43_0 : decode gc_c43 0 = .ok (.aload_n 0, 1) := by decide +kernel
theorem ge_43_1 : decode gc_c43 1 = .ok (.getfield 12, 3) := by decide +kernel
theorem ge_43_4 : decode gc_c43 4 = .ok (.aload_n 1, 1) := by decide +kernel
theorem ge_43_5 : decode gc_c43 5 = .ok (.invokeinterface 18 2, 5) := by decide +kernel
theorem ge_43_10 : decode gc_c43 10 = .ok (.pop, 1) := by decide +kernel
theorem ge_43_11 : decode gc_c43 11 = .ok (.return_, 1) := by decide +kernel
theorem ge_44_0 : decode gc_c44 0 = .ok (.aload_n 0, 1) := by decide +kernel
theorem ge_44_1 : decode gc_c44 1 = .ok (.iload_n 1, 1) := by decide +kernel
theorem ge_44_2 : decode gc_c44 2 = .ok (.invokevirtual 29, 3) := by decide +kernel
theorem ge_44_5 : decode gc_c44 5 = .ok (.pop, 1) := by decide +kernel
theorem ge_44_6 : decode gc_c44 6 = .ok (.aload_n 0, 1) := by decide +kernel
theorem ge_44_7 : decode gc_c44 7 = .ok (.getfield 11, 3) := by decide +kernel
theorem ge_44_10 : decode gc_c44 10 = .ok (.iload_n 1, 1) := by decide +kernel
theorem ge_44_11 : decode gc_c44 11 = .ok (.aload_n 2, 1) := by decide +kernel
theorem ge_44_12 : decode gc_c44 12 = .ok (.aastore, 1) := by decide +kernel
theorem ge_44_13 : decode gc_c44 13 = .ok (.aload_n 3, 1) := by decide +kernel
theorem ge_44_14 : decode gc_c44 14 = .ok (.iconst (0), 1) := by decide +kernel
theorem ge_44_15 : decode gc_c44 15 = .ok (.aload_n 0, 1) := by decide +kernel
theorem ge_44_16 : decode gc_c44 16 = .ok (.getfield 17, 3) := by decide +kernel
theorem ge_44_19 : decode gc_c44 19 = .ok (.iload_n 1, 1) := by decide +kernel
theorem ge_44_20 : decode gc_c44 20 = .ok (.bipush (20), 2) := by decide +kernel
theorem ge_44_22 : decode gc_c44 22 = .ok (.imul, 1) := by decide +kernel
theorem ge_44_23 : decode gc_c44 23 = .ok (.iload 4, 2) := by decide +kernel
theorem ge_44_25 : decode gc_c44 25 = .ok (.invokestatic 33, 3) := by decide +kernel
theorem ge_44_28 : decode gc_c44 28 = .ok (.return_, 1) := by decide +kernel
theorem ge_45_0 : decode gc_c45 0 = .ok (.aload_n 0, 1) := by decide +kernel
theorem ge_45_1 : decode gc_c45 1 = .ok (.getfield 11, 3) := by decide +kernel
theorem ge_45_4 : decode gc_c45 4 = .ok (.iload_n 1, 1) := by decide +kernel
theorem ge_45_5 : decode gc_c45 5 = .ok (.aaload, 1) := by decide +kernel
theorem ge_45_6 : decode gc_c45 6 = .ok (.ifnull (7), 3) := by decide +kernel
theorem ge_45_9 : decode gc_c45 9 = .ok (.iconst (1), 1) := by decide +kernel
theorem ge_45_10 : decode gc_c45 10 = .ok (.goto (4), 3) := by decide +kernel
theorem ge_45_13 : decode gc_c45 13 = .ok (.iconst (0), 1) := by decide +kernel
theorem ge_45_14 : decode gc_c45 14 = .ok (.istore_n 2, 1) := by decide +kernel
theorem ge_45_15 : decode gc_c45 15 = .ok (.aload_n 0, 1) := by decide +kernel
theorem ge_45_16 : decode gc_c45 16 = .ok (.getfield 11, 3) := by decide +kernel
theorem ge_45_19 : decode gc_c45 19 = .ok (.iload_n 1, 1) := by decide +kernel
theorem ge_45_20 : decode gc_c45 20 = .ok (.aconst_null, 1) := by decide +kernel
theorem ge_45_21 : decode gc_c45 21 = .ok (.aastore, 1) := by decide +kernel
theorem ge_45_22 : decode gc_c45 22 = .ok (.iconst (0), 1) := by decide +kernel
theorem ge_45_23 : decode gc_c45 23 = .ok (.istore_n 3, 1) := by decide +kernel
theorem ge_45_24 : decode gc_c45 24 = .ok (.iload_n 3, 1) := by decide +kernel
theorem ge_45_25 : decode gc_c45 25 = .ok (.bipush (20), 2) := by decide +kernel
theorem ge_45_27 : decode gc_c45 27 = .ok (.if_icmp .ge (21), 3) := by decide +kernel
theorem ge_45_30 : decode gc_c45 30 = .ok (.aload_n 0, 1) := by decide +kernel
theorem ge_45_31 : decode gc_c45 31 = .ok (.getfield 17, 3) := by decide +kernel
theorem ge_45_34 : decode gc_c45 34 = .ok (.iload_n 1, 1) := by decide +kernel
theorem ge_45_35 : decode gc_c45 35 = .ok (.bipush (20), 2) := by decide +kernel
theorem ge_45_37 : decode gc_c45 37 = .ok (.imul, 1) := by decide +kernel
theorem ge_45_38 : decode gc_c45 38 = .ok (.iload_n 3, 1) := by decide +kernel
theorem ge_45_39 : decode gc_c45 39 = .ok (.iadd, 1) := by decide +kernel
theorem ge_45_40 : decode gc_c45 40 = .ok (.iconst (0), 1) := by decide +kernel
theorem ge_45_41 : decode gc_c45 41 = .ok (.castore, 1) := by decide +kernel
theorem ge_45_42 : decode gc_c45 42 = .ok (.iinc 3 (1), 3) := by decide +kernel
theorem ge_45_45 : decode gc_c45 45 = .ok (.goto (-21), 3) := by decide +kernel
theorem ge_45_48 : decode gc_c45 48 = .ok (.iload_n 2, 1) := by decide +kernel
theorem ge_45_49 : decode gc_c45 49 = .ok (.ireturn, 1) := by decide +kernel
theorem ge_46_0 : decode gc_c46 0 = .ok (.iload_n 1, 1) := by decide +kernel
theorem ge_46_1 : decode gc_c46 1 = .ok (.invokestatic 59, 3) := by decide +kernel
theorem ge_46_4 : decode gc_c46 4 = .ok (.aload_n 0, 1) := by decide +kernel
theorem ge_46_5 : decode gc_c46 5 = .ok (.getfield 26, 3) := by decide +kernel
theorem ge_46_8 : decode gc_c46 8 = .ok (.iload_n 1, 1) := by decide +kernel
theorem ge_46_9 : decode gc_c46 9 = .ok (.invokevirtual 63, 3) := by decide +kernel
theorem ge_46_12 : decode gc_c46 12 = .ok (.ireturn, 1) := by decide +kernel
theorem ge_47_0 : decode gc_c47 0 = .ok (.iload_n 0, 1) := by decide +kernel
theorem ge_47_1 : decode gc_c47 1 = .ok (.invokestatic 67, 3) := by decide +kernel
theorem ge_47_4 : decode gc_c47 4 = .ok (.ifCond .ne (11), 3) := by decide +kernel
theorem ge_47_7 : decode gc_c47 7 = .ok (.new 78, 3) := by decide +kernel
theorem ge_47_10 : decode gc_c47 10 = .ok (.dup, 1) := by decide +kernel
theorem ge_47_11 : decode gc_c47 11 = .ok (.invokespecial 80, 3) := by decide +kernel
theorem ge_47_14 : decode gc_c47 14 = .ok (.athrow, 1) := by decide +kernel
theorem ge_47_15 : decode gc_c47 15 = .ok (.return_, 1) := by decide +kernel
theorem ge_48_0 : decode gc_c48 0 = .ok (.aload_n 0, 1) := by decide +kernel
theorem ge_48_1 : decode gc_c48 1 = .ok (.getfield 13, 3) := by decide +kernel
theorem ge_48_4 : decode gc_c48 4 = .ok (.aload_n 0, 1) := by decide +kernel
theorem ge_48_5 : decode gc_c48 5 = .ok (.getfield 41, 3) := by decide +kernel
theorem ge_48_8 : decode gc_c48 8 = .ok (.iload_n 1, 1) := by decide +kernel
theorem ge_48_9 : decode gc_c48 9 = .ok (.invokestatic 47, 3) := by decide +kernel
theorem ge_48_12 : decode gc_c48 12 = .ok (.istore_n 2, 1) := by decide +kernel
theorem ge_48_13 : decode gc_c48 13 = .ok (.iload_n 2, 1) := by decide +kernel
theorem ge_48_14 : decode gc_c48 14 = .ok (.iconst (-1), 1) := by decide +kernel
theorem ge_48_15 : decode gc_c48 15 = .ok (.if_icmp .ne (5), 3) := by decide +kernel
theorem ge_48_18 : decode gc_c48 18 = .ok (.iconst (0), 1) := by decide +kernel
theorem ge_48_19 : decode gc_c48 19 = .ok (.ireturn, 1) := by decide +kernel
theorem ge_48_20 : decode gc_c48 20 = .ok (.aload_n 0, 1) := by decide +kernel
theorem ge_48_21 : decode gc_c48 21 = .ok (.iload_n 2, 1) := by decide +kernel
theorem ge_48_22 : decode gc_c48 22 = .ok (.putfield 41, 3) := by decide +kernel
theorem ge_48_25 : decode gc_c48 25 = .ok (.iconst (1), 1) := by decide +kernel
theorem ge_48_26 : decode gc_c48 26 = .ok (.ireturn, 1) := by decide +kernel
theorem ge_49_0 : decode gc_c49 0 = .ok (.iload_n 1, 1) := by decide +kernel
theorem ge_49_1 : decode gc_c49 1 = .ok (.invokestatic 59, 3) := by decide +kernel
theorem ge_49_4 : decode gc_c49 4 = .ok (.aload_n 0, 1) := by decide +kernel
theorem ge_49_5 : decode gc_c49 5 = .ok (.getfield 26, 3) := by decide +kernel
theorem ge_49_8 : decode gc_c49 8 = .ok (.iload_n 1, 1) := by decide +kernel
theorem ge_49_9 : decode gc_c49 9 = .ok (.invokevirtual 74, 3) := by decide +kernel
theorem ge_49_12 : decode gc_c49 12 = .ok (.ireturn, 1) := by decide +kernel
theorem ge_50_0 : decode gc_c50 0 = .ok (.aload_n 0, 1) := by decide +kernel
theorem ge_50_1 : decode gc_c50 1 = .ok (.iload_n 1, 1) := by decide +kernel
theorem ge_50_2 : decode gc_c50 2 = .ok (.invokevirtual 39, 3) := by decide +kernel
theorem ge_50_5 : decode gc_c50 5 = .ok (.istore_n 2, 1) := by decide +kernel
theorem ge_50_6 : decode gc_c50 6 = .ok (.aload_n 0, 1) := by decide +kernel
theorem ge_50_7 : decode gc_c50 7 = .ok (.iload_n 2, 1) := by decide +kernel
theorem ge_50_8 : decode gc_c50 8 = .ok (.invokevirtual 43, 3) := by decide +kernel
theorem ge_50_11 : decode gc_c50 11 = .ok (.ifCond .ne (5), 3) := by decide +kernel
theorem ge_50_14 : decode gc_c50 14 = .ok (.iconst (1), 1) := by decide +kernel
theorem ge_50_15 : decode gc_c50 15 = .ok (.ireturn, 1) := by decide +kernel
theorem ge_50_16 : decode gc_c50 16 = .ok (.aload_n 0, 1) := by decide +kernel
theorem ge_50_17 : decode gc_c50 17 = .ok (.invokevirtual 46, 3) := by decide +kernel
theorem ge_50_20 : decode gc_c50 20 = .ok (.istore_n 3, 1) := by decide +kernel
theorem ge_50_21 : decode gc_c50 21 = .ok (.aload_n 0, 1) := by decide +kernel
theorem ge_50_22 : decode gc_c50 22 = .ok (.iload_n 2, 1) := by decide +kernel
theorem ge_50_23 : decode gc_c50 23 = .ok (.iload_n 3, 1) := by decide +kernel
theorem ge_50_24 : decode gc_c50 24 = .ok (.invokevirtual 50, 3) := by decide +kernel
theorem ge_50_27 : decode gc_c50 27 = .ok (.ifCond .ne (5), 3) := by decide +kernel
theorem ge_50_30 : decode gc_c50 30 = .ok (.iconst (2), 1) := by decide +kernel
theorem ge_50_31 : decode gc_c50 31 = .ok (.ireturn, 1) := by decide +kernel
theorem ge_50_32 : decode gc_c50 32 = .ok (.aload_n 0, 1) := by decide +kernel
theorem ge_50_33 : decode gc_c50 33 = .ok (.iload_n 2, 1) := by decide +kernel
theorem ge_50_34 : decode gc_c50 34 = .ok (.iload_n 3, 1) := by decide +kernel
theorem ge_50_35 : decode gc_c50 35 = .ok (.invokevirtual 54, 3) := by decide +kernel
theorem ge_50_38 : decode gc_c50 38 = .ok (.ifCond .eq (7), 3) := by decide +kernel
theorem ge_50_41 : decode gc_c50 41 = .ok (.iconst (3), 1) := by decide +kernel
theorem ge_50_42 : decode gc_c50 42 = .ok (.goto (4), 3) := by decide +kernel
theorem ge_50_45 : decode gc_c50 45 = .ok (.iconst (0), 1) := by decide +kernel
theorem ge_50_46 : decode gc_c50 46 = .ok (.ireturn, 1) := by decide +kernel
theorem ge_51_0 : decode gc_c51 0 = .ok (.iconst (1), 1) := by decide +kernel
theorem ge_51_1 : decode gc_c51 1 = .ok (.iload_n 1, 1) := by decide +kernel
theorem ge_51_2 : decode gc_c51 2 = .ok (.ishl, 1) := by decide +kernel
theorem ge_51_3 : decode gc_c51 3 = .ok (.istore_n 2, 1) := by decide +kernel
theorem ge_51_4 : decode gc_c51 4 = .ok (.iconst (0), 1) := by decide +kernel
theorem ge_51_5 : decode gc_c51 5 = .ok (.istore_n 3, 1) := by decide +kernel
theorem ge_51_6 : decode gc_c51 6 = .ok (.iload_n 3, 1) := by decide +kernel
theorem ge_51_7 : decode gc_c51 7 = .ok (.iconst (4), 1) := by decide +kernel
theorem ge_51_8 : decode gc_c51 8 = .ok (.if_icmp .ge (42), 3) := by decide +kernel
theorem ge_51_11 : decode gc_c51 11 = .ok (.iconst (0), 1) := by decide +kernel
theorem ge_51_12 : decode gc_c51 12 = .ok (.istore 4, 2) := by decide +kernel
theorem ge_51_14 : decode gc_c51 14 = .ok (.iload 4, 2) := by decide +kernel
theorem ge_51_16 : decode gc_c51 16 = .ok (.iconst (4), 1) := by decide +kernel
theorem ge_51_17 : decode gc_c51 17 = .ok (.if_icmp .ge (27), 3) := by decide +kernel
theorem ge_51_20 : decode gc_c51 20 = .ok (.iload_n 2, 1) := by decide +kernel
theorem ge_51_21 : decode gc_c51 21 = .ok (.iload 4, 2) := by decide +kernel
theorem ge_51_23 : decode gc_c51 23 = .ok (.invokestatic 57, 3) := by decide +kernel
theorem ge_51_26 : decode gc_c51 26 = .ok (.ifCond .eq (12), 3) := by decide +kernel
theorem ge_51_29 : decode gc_c51 29 = .ok (.iload_n 2, 1) := by decide +kernel
theorem ge_51_30 : decode gc_c51 30 = .ok (.aload_n 0, 1) := by decide +kernel
theorem ge_51_31 : decode gc_c51 31 = .ok (.iload 4, 2) := by decide +kernel
theorem ge_51_33 : decode gc_c51 33 = .ok (.invokevirtual 60, 3) := by decide +kernel
theorem ge_51_36 : decode gc_c51 36 = .ok (.ior, 1) := by decide +kernel
theorem ge_51_37 : decode gc_c51 37 = .ok (.istore_n 2, 1) := by decide +kernel
theorem ge_51_38 : decode gc_c51 38 = .ok (.iinc 4 (1), 3) := by decide +kernel
theorem ge_51_41 : decode gc_c51 41 = .ok (.goto (-27), 3) := by decide +kernel
theorem ge_51_44 : decode gc_c51 44 = .ok (.iinc 3 (1), 3) := by decide +kernel
theorem ge_51_47 : decode gc_c51 47 = .ok (.goto (-41), 3) := by decide +kernel
theorem ge_51_50 : decode gc_c51 50 = .ok (.iload_n 2, 1) := by decide +kernel
theorem ge_51_51 : decode gc_c51 51 = .ok (.ireturn, 1) := by decide +kernel
theorem ge_52_0 : decode gc_c52 0 = .ok (.iload_n 0, 1) := by decide +kernel
theorem ge_52_1 : decode gc_c52 1 = .ok (.iload_n 1, 1) := by decide +kernel
theorem ge_52_2 : decode gc_c52 2 = .ok (.ishr, 1) := by decide +kernel
theorem ge_52_3 : decode gc_c52 3 = .ok (.iconst (1), 1) := by decide +kernel
theorem ge_52_4 : decode gc_c52 4 = .ok (.iand, 1) := by decide +kernel
theorem ge_52_5 : decode gc_c52 5 = .ok (.ifCond .eq (7), 3) := by decide +kernel
theorem ge_52_8 : decode gc_c52 8 = .ok (.iconst (1), 1) := by decide +kernel
theorem ge_52_9 : decode gc_c52 9 = .ok (.goto (4), 3) := by decide +kernel
theorem ge_52_12 : decode gc_c52 12 = .ok (.iconst (0), 1) := by decide +kernel
theorem ge_52_13 : decode gc_c52 13 = .ok (.ireturn, 1) := by decide +kernel
theorem ge_53_0 : decode gc_c53 0 = .ok (.iconst (0), 1) := by decide +kernel
theorem ge_53_1 : decode gc_c53 1 = .ok (.istore_n 2, 1) := by decide +kernel
theorem ge_53_2 : decode gc_c53 2 = .ok (.iconst (1), 1) := by decide +kernel
theorem ge_53_3 : decode gc_c53 3 = .ok (.istore_n 3, 1) := by decide +kernel
theorem ge_53_4 : decode gc_c53 4 = .ok (.iload_n 3, 1) := by decide +kernel
theorem ge_53_5 : decode gc_c53 5 = .ok (.bipush (20), 2) := by decide +kernel
theorem ge_53_7 : decode gc_c53 7 = .ok (.if_icmp .ge (46), 3) := by decide +kernel
theorem ge_53_10 : decode gc_c53 10 = .ok (.aload_n 0, 1) := by decide +kernel
theorem ge_53_11 : decode gc_c53 11 = .ok (.getfield 17, 3) := by decide +kernel
theorem ge_53_14 : decode gc_c53 14 = .ok (.iload_n 1, 1) := by decide +kernel
theorem ge_53_15 : decode gc_c53 15 = .ok (.bipush (20), 2) := by decide +kernel
theorem ge_53_17 : decode gc_c53 17 = .ok (.imul, 1) := by decide +kernel
theorem ge_53_18 : decode gc_c53 18 = .ok (.iload_n 3, 1) := by decide +kernel
theorem ge_53_19 : decode gc_c53 19 = .ok (.iadd, 1) := by decide +kernel
theorem ge_53_20 : decode gc_c53 20 = .ok (.caload, 1) := by decide +kernel
theorem ge_53_21 : decode gc_c53 21 = .ok (.istore 4, 2) := by decide +kernel
theorem ge_53_23 : decode gc_c53 23 = .ok (.iload 4, 2) := by decide +kernel
theorem ge_53_25 : decode gc_c53 25 = .ok (.bipush (65), 2) := by decide +kernel
theorem ge_53_27 : decode gc_c53 27 = .ok (.if_icmp .lt (20), 3) := by decide +kernel
theorem ge_53_30 : decode gc_c53 30 = .ok (.iload 4, 2) := by decide +kernel
theorem ge_53_32 : decode gc_c53 32 = .ok (.bipush (69), 2) := by decide +kernel
theorem ge_53_34 : decode gc_c53 34 = .ok (.if_icmp .ge (13), 3) := by decide +kernel
theorem ge_53_37 : decode gc_c53 37 = .ok (.iload_n 2, 1) := by decide +kernel
theorem ge_53_38 : decode gc_c53 38 = .ok (.iconst (1), 1) := by decide +kernel
theorem ge_53_39 : decode gc_c53 39 = .ok (.iload 4, 2) := by decide +kernel
theorem ge_53_41 : decode gc_c53 41 = .ok (.bipush (65), 2) := by decide +kernel
theorem ge_53_43 : decode gc_c53 43 = .ok (.isub, 1) := by decide +kernel
theorem ge_53_44 : decode gc_c53 44 = .ok (.ishl, 1) := by decide +kernel
theorem ge_53_45 : decode gc_c53 45 = .ok (.ior, 1) := by decide +kernel
theorem ge_53_46 : decode gc_c53 46 = .ok (.istore_n 2, 1) := by decide +kernel
theorem ge_53_47 : decode gc_c53 47 = .ok (.iinc 3 (1), 3) := by decide +kernel
theorem ge_53_50 : decode gc_c53 50 = .ok (.goto (-46), 3) := by decide +kernel
theorem ge_53_53 : decode gc_c53 53 = .ok (.iload_n 2, 1) := by decide +kernel
theorem ge_53_54 : decode gc_c53 54 = .ok (.ireturn, 1) := by decide +kernel
theorem ge_54_0 : decode gc_c54 0 = .ok (.iconst (0), 1) := by decide +kernel
theorem ge_54_1 : decode gc_c54 1 = .ok (.istore_n 2, 1) := by decide +kernel
theorem ge_54_2 : decode gc_c54 2 = .ok (.iload_n 2, 1) := by decide +kernel
theorem ge_54_3 : decode gc_c54 3 = .ok (.iconst (4), 1) := by decide +kernel
theorem ge_54_4 : decode gc_c54 4 = .ok (.if_icmp .ge (28), 3) := by decide +kernel
theorem ge_54_7 : decode gc_c54 7 = .ok (.iload_n 1, 1) := by decide +kernel
theorem ge_54_8 : decode gc_c54 8 = .ok (.iload_n 2, 1) := by decide +kernel
theorem ge_54_9 : decode gc_c54 9 = .ok (.invokestatic 57, 3) := by decide +kernel
theorem ge_54_12 : decode gc_c54 12 = .ok (.ifCond .eq (14), 3) := by decide +kernel
theorem ge_54_15 : decode gc_c54 15 = .ok (.aload_n 0, 1) := by decide +kernel
theorem ge_54_16 : decode gc_c54 16 = .ok (.getfield 11, 3) := by decide +kernel
theorem ge_54_19 : decode gc_c54 19 = .ok (.iload_n 2, 1) := by decide +kernel
theorem ge_54_20 : decode gc_c54 20 = .ok (.aaload, 1) := by decide +kernel
theorem ge_54_21 : decode gc_c54 21 = .ok (.ifnonnull (5), 3) := by decide +kernel
theorem ge_54_24 : decode gc_c54 24 = .ok (.iconst (0), 1) := by decide +kernel
theorem ge_54_25 : decode gc_c54 25 = .ok (.ireturn, 1) := by decide +kernel
theorem ge_54_26 : decode gc_c54 26 = .ok (.iinc 2 (1), 3) := by decide +kernel
theorem ge_54_29 : decode gc_c54 29 = .ok (.goto (-27), 3) := by decide +kernel
theorem ge_54_32 : decode gc_c54 32 = .ok (.iconst (1), 1) := by decide +kernel
theorem ge_54_33 : decode gc_c54 33 = .ok (.ireturn, 1) := by decide +kernel
theorem ge_55_0 : decode gc_c55 0 = .ok (.iconst (0), 1) := by decide +kernel
theorem ge_55_1 : decode gc_c55 1 = .ok (.istore_n 1, 1) := by decide +kernel
theorem ge_55_2 : decode gc_c55 2 = .ok (.iconst (0), 1) := by decide +kernel
theorem ge_55_3 : decode gc_c55 3 = .ok (.istore_n 2, 1) := by decide +kernel
theorem ge_55_4 : decode gc_c55 4 = .ok (.iload_n 2, 1) := by decide +kernel
theorem ge_55_5 : decode gc_c55 5 = .ok (.iconst (4), 1) := by decide +kernel
theorem ge_55_6 : decode gc_c55 6 = .ok (.if_icmp .ge (50), 3) := by decide +kernel
theorem ge_55_9 : decode gc_c55 9 = .ok (.iconst (0), 1) := by decide +kernel
theorem ge_55_10 : decode gc_c55 10 = .ok (.istore_n 3, 1) := by decide +kernel
theorem ge_55_11 : decode gc_c55 11 = .ok (.iload_n 3, 1) := by decide +kernel
theorem ge_55_12 : decode gc_c55 12 = .ok (.iconst (4), 1) := by decide +kernel
theorem ge_55_13 : decode gc_c55 13 = .ok (.if_icmp .ge (37), 3) := by decide +kernel
theorem ge_55_16 : decode gc_c55 16 = .ok (.aload_n 0, 1) := by decide +kernel
theorem ge_55_17 : decode gc_c55 17 = .ok (.getfield 11, 3) := by decide +kernel
theorem ge_55_20 : decode gc_c55 20 = .ok (.iload_n 3, 1) := by decide +kernel
theorem ge_55_21 : decode gc_c55 21 = .ok (.aaload, 1) := by decide +kernel
theorem ge_55_22 : decode gc_c55 22 = .ok (.astore 4, 2) := by decide +kernel
theorem ge_55_24 : decode gc_c55 24 = .ok (.aload 4, 2) := by decide +kernel
theorem ge_55_26 : decode gc_c55 26 = .ok (.ifnull (18), 3) := by decide +kernel
theorem ge_55_29 : decode gc_c55 29 = .ok (.aload 4, 2) := by decide +kernel
theorem ge_55_31 : decode gc_c55 31 = .ok (.iload_n 1, 1) := by decide +kernel
theorem ge_55_32 : decode gc_c55 32 = .ok (.invokevirtual 63, 3) := by decide +kernel
theorem ge_55_35 : decode gc_c55 35 = .ok (.ifCond .eq (9), 3) := by decide +kernel
theorem ge_55_38 : decode gc_c55 38 = .ok (.iload_n 1, 1) := by decide +kernel
theorem ge_55_39 : decode gc_c55 39 = .ok (.iconst (1), 1) := by decide +kernel
theorem ge_55_40 : decode gc_c55 40 = .ok (.iload_n 3, 1) := by decide +kernel
theorem ge_55_41 : decode gc_c55 41 = .ok (.ishl, 1) := by decide +kernel
theorem ge_55_42 : decode gc_c55 42 = .ok (.ior, 1) := by decide +kernel
theorem ge_55_43 : decode gc_c55 43 = .ok (.istore_n 1, 1) := by decide +kernel
theorem ge_55_44 : decode gc_c55 44 = .ok (.iinc 3 (1), 3) := by decide +kernel
theorem ge_55_47 : decode gc_c55 47 = .ok (.goto (-36), 3) := by decide +kernel
theorem ge_55_50 : decode gc_c55 50 = .ok (.iinc 2 (1), 3) := by decide +kernel
theorem ge_55_53 : decode gc_c55 53 = .ok (.goto (-49), 3) := by decide +kernel
theorem ge_55_56 : decode gc_c55 56 = .ok (.iload_n 1, 1) := by decide +kernel
theorem ge_55_57 : decode gc_c55 57 = .ok (.ireturn, 1) := by decide +kernel
theorem ge_56_0 : decode gc_c56 0 = .ok (.aload_n 0, 1) := by decide +kernel
theorem ge_56_1 : decode gc_c56 1 = .ok (.getfield 7, 3) := by decide +kernel
theorem ge_56_4 : decode gc_c56 4 = .ok (.ifnull (14), 3) := by decide +kernel
theorem ge_56_7 : decode gc_c56 7 = .ok (.aload_n 0, 1) := by decide +kernel
theorem ge_56_8 : decode gc_c56 8 = .ok (.getfield 7, 3) := by decide +kernel
theorem ge_56_11 : decode gc_c56 11 = .ok (.iload_n 1, 1) := by decide +kernel
theorem ge_56_12 : decode gc_c56 12 = .ok (.invokevirtual 27, 3) := by decide +kernel
theorem ge_56_15 : decode gc_c56 15 = .ok (.ifCond .eq (7), 3) := by decide +kernel
theorem ge_56_18 : decode gc_c56 18 = .ok (.iconst (1), 1) := by decide +kernel
theorem ge_56_19 : decode gc_c56 19 = .ok (.goto (4), 3) := by decide +kernel
theorem ge_56_22 : decode gc_c56 22 = .ok (.iconst (0), 1) := by decide +kernel
theorem ge_56_23 : decode gc_c56 23 = .ok (.ireturn, 1) := by decide +kernel
theorem ge_57_0 : decode gc_c57 0 = .ok (.iconst (0), 1) := by decide +kernel
theorem ge_57_1 : decode gc_c57 1 = .ok (.istore_n 2, 1) := by decide +kernel
theorem ge_57_2 : decode gc_c57 2 = .ok (.iload_n 2, 1) := by decide +kernel
theorem ge_57_3 : decode gc_c57 3 = .ok (.aload_n 0, 1) := by decide +kernel
theorem ge_57_4 : decode gc_c57 4 = .ok (.getfield 12, 3) := by decide +kernel
theorem ge_57_7 : decode gc_c57 7 = .ok (.invokeinterface 30 1, 5) := by decide +kernel
theorem ge_57_12 : decode gc_c57 12 = .ok (.if_icmp .ge (31), 3) := by decide +kernel
theorem ge_57_15 : decode gc_c57 15 = .ok (.aload_n 0, 1) := by decide +kernel
theorem ge_57_16 : decode gc_c57 16 = .ok (.getfield 12, 3) := by decide +kernel
theorem ge_57_19 : decode gc_c57 19 = .ok (.iload_n 2, 1) := by decide +kernel
theorem ge_57_20 : decode gc_c57 20 = .ok (.invokeinterface 33 2, 5) := by decide +kernel
theorem ge_57_25 : decode gc_c57 25 = .ok (.checkcast 4, 3) := by decide +kernel
theorem ge_57_28 : decode gc_c57 28 = .ok (.iload_n 1, 1) := by decide +kernel
theorem ge_57_29 : decode gc_c57 29 = .ok (.invokevirtual 45, 3) := by decide +kernel
theorem ge_57_32 : decode gc_c57 32 = .ok (.ifCond .eq (5), 3) := by decide +kernel
theorem ge_57_35 : decode gc_c57 35 = .ok (.iconst (1), 1) := by decide +kernel
theorem ge_57_36 : decode gc_c57 36 = .ok (.ireturn, 1) := by decide +kernel
theorem ge_57_37 : decode gc_c57 37 = .ok (.iinc 2 (1), 3) := by decide +kernel
theorem ge_57_40 : decode gc_c57 40 = .ok (.goto (-38), 3) := by decide +kernel
theorem ge_57_43 : decode gc_c57 43 = .ok (.iconst (0), 1) := by decide +kernel
theorem ge_57_44 : decode gc_c57 44 = .ok (.ireturn, 1) := by decide +kernel
theorem ge_58_0 : decode gc_c58 0 = .ok (.iconst (1), 1) := by decide +kernel
theorem ge_58_1 : decode gc_c58 1 = .ok (.ireturn, 1) := by decide +kernel
theorem ge_59_0 : decode gc_c59 0 = .ok (.iload_n 1, 1) := by decide +kernel
theorem ge_59_1 : decode gc_c59 1 = .ok (.aload_n 0, 1) := by decide +kernel
theorem ge_59_2 : decode gc_c59 2 = .ok (.getfield 7, 3) := by decide +kernel
theorem ge_59_5 : decode gc_c59 5 = .ok (.invokestatic 19, 3) := by decide +kernel
theorem ge_59_8 : decode gc_c59 8 = .ok (.ireturn, 1) := by decide +kernel
theorem ge_60_0 : decode gc_c60 0 = .ok (.aload_n 0, 1) := by decide +kernel
theorem ge_60_1 : decode gc_c60 1 = .ok (.getfield 15, 3) := by decide +kernel
theorem ge_60_4 : decode gc_c60 4 = .ok (.ifCond .eq (14), 3) := by decide +kernel
theorem ge_60_7 : decode gc_c60 7 = .ok (.aload_n 0, 1) := by decide +kernel
theorem ge_60_8 : decode gc_c60 8 = .ok (.getfield 9, 3) := by decide +kernel
theorem ge_60_11 : decode gc_c60 11 = .ok (.iload_n 1, 1) := by decide +kernel
theorem ge_60_12 : decode gc_c60 12 = .ok (.invokevirtual 36, 3) := by decide +kernel
theorem ge_60_15 : decode gc_c60 15 = .ok (.ifCond .eq (7), 3) := by decide +kernel
theorem ge_60_18 : decode gc_c60 18 = .ok (.iconst (1), 1) := by decide +kernel
theorem ge_60_19 : decode gc_c60 19 = .ok (.goto (4), 3) := by decide +kernel
theorem ge_60_22 : decode gc_c60 22 = .ok (.iconst (0), 1) := by decide +kernel
theorem ge_60_23 : decode gc_c60 23 = .ok (.ireturn, 1) := by decide +kernel
theorem ge_61_0 : decode gc_c61 0 = .ok (.iconst (0), 1) := by decide +kernel
theorem ge_61_1 : decode gc_c61 1 = .ok (.istore_n 2, 1) := by decide +kernel
theorem ge_61_2 : decode gc_c61 2 = .ok (.iload_n 2, 1) := by decide +kernel
theorem ge_61_3 : decode gc_c61 3 = .ok (.aload_n 0, 1) := by decide +kernel
theorem ge_61_4 : decode gc_c61 4 = .ok (.getfield 12, 3) := by decide +kernel
theorem ge_61_7 : decode gc_c61 7 = .ok (.invokeinterface 24 1, 5) := by decide +kernel
theorem ge_61_12 : decode gc_c61 12 = .ok (.if_icmp .ge (31), 3) := by decide +kernel
theorem ge_61_15 : decode gc_c61 15 = .ok (.aload_n 0, 1) := by decide +kernel
theorem ge_61_16 : decode gc_c61 16 = .ok (.getfield 12, 3) := by decide +kernel
theorem ge_61_19 : decode gc_c61 19 = .ok (.iload_n 2, 1) := by decide +kernel
theorem ge_61_20 : decode gc_c61 20 = .ok (.invokeinterface 28 2, 5) := by decide +kernel
theorem ge_61_25 : decode gc_c61 25 = .ok (.checkcast 4, 3) := by decide +kernel
theorem ge_61_28 : decode gc_c61 28 = .ok (.iload_n 1, 1) := by decide +kernel
theorem ge_61_29 : decode gc_c61 29 = .ok (.invokevirtual 36, 3) := by decide +kernel
theorem ge_61_32 : decode gc_c61 32 = .ok (.ifCond .ne (5), 3) := by decide +kernel
theorem ge_61_35 : decode gc_c61 35 = .ok (.iconst (0), 1) := by decide +kernel
theorem ge_61_36 : decode gc_c61 36 = .ok (.ireturn, 1) := by decide +kernel
theorem ge_61_37 : decode gc_c61 37 = .ok (.iinc 2 (1), 3) := by decide +kernel
theorem ge_61_40 : decode gc_c61 40 = .ok (.goto (-38), 3) := by decide +kernel
theorem ge_61_43 : decode gc_c61 43 = .ok (.iconst (1), 1) := by decide +kernel
theorem ge_61_44 : decode gc_c61 44 = .ok (.ireturn, 1) := by decide +kernel
theorem ge_62_0 : decode gc_c62 0 = .ok (.iconst (0), 1) := by decide +kernel
theorem ge_62_1 : decode gc_c62 1 = .ok (.ireturn, 1) := by decide +kernel
theorem ge_63_0 : decode gc_c63 0 = .ok (.iload_n 1, 1) := by decide +kernel
theorem ge_63_1 : decode gc_c63 1 = .ok (.istore_n 3, 1) := by decide +kernel
theorem ge_63_2 : decode gc_c63 2 = .ok (.aload_n 0, 1) := by decide +kernel
theorem ge_63_3 : decode gc_c63 3 = .ok (.iconst (0), 1) := by decide +kernel
theorem ge_63_4 : decode gc_c63 4 = .ok (.putfield 25, 3) := by decide +kernel
theorem ge_63_7 : decode gc_c63 7 = .ok (.iconst (0), 1) := by decide +kernel
theorem ge_63_8 : decode gc_c63 8 = .ok (.istore 4, 2) := by decide +kernel
theorem ge_63_10 : decode gc_c63 10 = .ok (.iload 4, 2) := by decide +kernel
theorem ge_63_12 : decode gc_c63 12 = .ok (.iconst (4), 1) := by decide +kernel
theorem ge_63_13 : decode gc_c63 13 = .ok (.if_icmp .ge (88), 3) := by decide +kernel
theorem ge_63_16 : decode gc_c63 16 = .ok (.iconst (0), 1) := by decide +kernel
theorem ge_63_17 : decode gc_c63 17 = .ok (.istore 5, 2) := by decide +kernel
theorem ge_63_19 : decode gc_c63 19 = .ok (.iload 5, 2) := by decide +kernel
theorem ge_63_21 : decode gc_c63 21 = .ok (.iconst (4), 1) := by decide +kernel
theorem ge_63_22 : decode gc_c63 22 = .ok (.if_icmp .ge (73), 3) := by decide +kernel
theorem ge_63_25 : decode gc_c63 25 = .ok (.aload_n 0, 1) := by decide +kernel
theorem ge_63_26 : decode gc_c63 26 = .ok (.getfield 11, 3) := by decide +kernel
theorem ge_63_29 : decode gc_c63 29 = .ok (.iload 5, 2) := by decide +kernel
theorem ge_63_31 : decode gc_c63 31 = .ok (.aaload, 1) := by decide +kernel
theorem ge_63_32 : decode gc_c63 32 = .ok (.astore 6, 2) := by decide +kernel
theorem ge_63_34 : decode gc_c63 34 = .ok (.iload_n 3, 1) := by decide +kernel
theorem ge_63_35 : decode gc_c63 35 = .ok (.iload 5, 2) := by decide +kernel
theorem ge_63_37 : decode gc_c63 37 = .ok (.invokestatic 57, 3) := by decide +kernel
theorem ge_63_40 : decode gc_c63 40 = .ok (.ifCond .eq (49), 3) := by decide +kernel
theorem ge_63_43 : decode gc_c63 43 = .ok (.aload 6, 2) := by decide +kernel
theorem ge_63_45 : decode gc_c63 45 = .ok (.ifnull (44), 3) := by decide +kernel
theorem ge_63_48 : decode gc_c63 48 = .ok (.aload 6, 2) := by decide +kernel
theorem ge_63_50 : decode gc_c63 50 = .ok (.iload_n 2, 1) := by decide +kernel
theorem ge_63_51 : decode gc_c63 51 = .ok (.invokevirtual 66, 3) := by decide +kernel
theorem ge_63_54 : decode gc_c63 54 = .ok (.iload_n 3, 1) := by decide +kernel
theorem ge_63_55 : decode gc_c63 55 = .ok (.iand, 1) := by decide +kernel
theorem ge_63_56 : decode gc_c63 56 = .ok (.ifCond .ne (33), 3) := by decide +kernel
theorem ge_63_59 : decode gc_c63 59 = .ok (.aload_n 0, 1) := by decide +kernel
theorem ge_63_60 : decode gc_c63 60 = .ok (.getfield 21, 3) := by decide +kernel
theorem ge_63_63 : decode gc_c63 63 = .ok (.aload_n 0, 1) := by decide +kernel
theorem ge_63_64 : decode gc_c63 64 = .ok (.getfield 25, 3) := by decide +kernel
theorem ge_63_67 : decode gc_c63 67 = .ok (.iload 5, 2) := by decide +kernel
theorem ge_63_69 : decode gc_c63 69 = .ok (.iastore, 1) := by decide +kernel
theorem ge_63_70 : decode gc_c63 70 = .ok (.aload_n 0, 1) := by decide +kernel
theorem ge_63_71 : decode gc_c63 71 = .ok (.dup, 1) := by decide +kernel
theorem ge_63_72 : decode gc_c63 72 = .ok (.getfield 25, 3) := by decide +kernel
theorem ge_63_75 : decode gc_c63 75 = .ok (.iconst (1), 1) := by decide +kernel
theorem ge_63_76 : decode gc_c63 76 = .ok (.iadd, 1) := by decide +kernel
theorem ge_63_77 : decode gc_c63 77 = .ok (.putfield 25, 3) := by decide +kernel
theorem ge_63_80 : decode gc_c63 80 = .ok (.iload_n 3, 1) := by decide +kernel
theorem ge_63_81 : decode gc_c63 81 = .ok (.iconst (1), 1) := by decide +kernel
theorem ge_63_82 : decode gc_c63 82 = .ok (.iload 5, 2) := by decide +kernel
theorem ge_63_84 : decode gc_c63 84 = .ok (.ishl, 1) := by decide +kernel
theorem ge_63_85 : decode gc_c63 85 = .ok (.iconst (-1), 1) := by decide +kernel
theorem ge_63_86 : decode gc_c63 86 = .ok (.ixor, 1) := by decide +kernel
theorem ge_63_87 : decode gc_c63 87 = .ok (.iand, 1) := by decide +kernel
theorem ge_63_88 : decode gc_c63 88 = .ok (.istore_n 3, 1) := by decide +kernel
theorem ge_63_89 : decode gc_c63 89 = .ok (.iinc 5 (1), 3) := by decide +kernel
theorem ge_63_92 : decode gc_c63 92 = .ok (.goto (-73), 3) := by decide +kernel
theorem ge_63_95 : decode gc_c63 95 = .ok (.iinc 4 (1), 3) := by decide +kernel
theorem ge_63_98 : decode gc_c63 98 = .ok (.goto (-88), 3) := by decide +kernel
theorem ge_63_101 : decode gc_c63 101 = .ok (.iload_n 3, 1) := by decide +kernel
theorem ge_63_102 : decode gc_c63 102 = .ok (.ifCond .ne (7), 3) := by decide +kernel
theorem ge_63_105 : decode gc_c63 105 = .ok (.iconst (1), 1) := by decide +kernel
theorem ge_63_106 : decode gc_c63 106 = .ok (.goto (4), 3) := by decide +kernel
theorem ge_63_109 : decode gc_c63 109 = .ok (.iconst (0), 1) := by decide +kernel
theorem ge_63_110 : decode gc_c63 110 = .ok (.ireturn, 1) := by decide +kernel
theorem ge_64_0 : decode gc_c64 0 = .ok (.aload_n 0, 1) := by decide +kernel
theorem ge_64_1 : decode gc_c64 1 = .ok (.getfield 7, 3) := by decide +kernel
theorem ge_64_4 : decode gc_c64 4 = .ok (.ifnonnull (7), 3) := by decide +kernel
theorem ge_64_7 : decode gc_c64 7 = .ok (.iconst (0), 1) := by decide +kernel
theorem ge_64_8 : decode gc_c64 8 = .ok (.goto (11), 3) := by decide +kernel
theorem ge_64_11 : decode gc_c64 11 = .ok (.aload_n 0, 1) := by decide +kernel
theorem ge_64_12 : decode gc_c64 12 = .ok (.getfield 7, 3) := by decide +kernel
theorem ge_64_15 : decode gc_c64 15 = .ok (.iload_n 1, 1) := by decide +kernel
theorem ge_64_16 : decode gc_c64 16 = .ok (.invokevirtual 31, 3) := by decide +kernel
theorem ge_64_19 : decode gc_c64 19 = .ok (.ireturn, 1) := by decide +kernel
theorem ge_65_0 : decode gc_c65 0 = .ok (.iconst (0), 1) := by decide +kernel
theorem ge_65_1 : decode gc_c65 1 = .ok (.istore_n 2, 1) := by decide +kernel
theorem ge_65_2 : decode gc_c65 2 = .ok (.iconst (0), 1) := by decide +kernel
theorem ge_65_3 : decode gc_c65 3 = .ok (.istore_n 3, 1) := by decide +kernel
theorem ge_65_4 : decode gc_c65 4 = .ok (.iload_n 3, 1) := by decide +kernel
theorem ge_65_5 : decode gc_c65 5 = .ok (.aload_n 0, 1) := by decide +kernel
theorem ge_65_6 : decode gc_c65 6 = .ok (.getfield 12, 3) := by decide +kernel
theorem ge_65_9 : decode gc_c65 9 = .ok (.invokeinterface 30 1, 5) := by decide +kernel
theorem ge_65_14 : decode gc_c65 14 = .ok (.if_icmp .ge (29), 3) := by decide +kernel
theorem ge_65_17 : decode gc_c65 17 = .ok (.iload_n 2, 1) := by decide +kernel
theorem ge_65_18 : decode gc_c65 18 = .ok (.aload_n 0, 1) := by decide +kernel
theorem ge_65_19 : decode gc_c65 19 = .ok (.getfield 12, 3) := by decide +kernel
theorem ge_65_22 : decode gc_c65 22 = .ok (.iload_n 3, 1) := by decide +kernel
theorem ge_65_23 : decode gc_c65 23 = .ok (.invokeinterface 33 2, 5) := by decide +kernel
theorem ge_65_28 : decode gc_c65 28 = .ok (.checkcast 4, 3) := by decide +kernel
theorem ge_65_31 : decode gc_c65 31 = .ok (.iload_n 1, 1) := by decide +kernel
theorem ge_65_32 : decode gc_c65 32 = .ok (.invokevirtual 49, 3) := by decide +kernel
theorem ge_65_35 : decode gc_c65 35 = .ok (.ior, 1) := by decide +kernel
theorem ge_65_36 : decode gc_c65 36 = .ok (.istore_n 2, 1) := by decide +kernel
theorem ge_65_37 : decode gc_c65 37 = .ok (.iinc 3 (1), 3) := by decide +kernel
theorem ge_65_40 : decode gc_c65 40 = .ok (.goto (-36), 3) := by decide +kernel
theorem ge_65_43 : decode gc_c65 43 = .ok (.iload_n 2, 1) := by decide +kernel
theorem ge_65_44 : decode gc_c65 44 = .ok (.ireturn, 1) := by decide +kernel
theorem ge_66_0 : decode gc_c66 0 = .ok (.aload_n 0, 1) := by decide +kernel
theorem ge_66_1 : decode gc_c66 1 = .ok (.getfield 9, 3) := by decide +kernel
theorem ge_66_4 : decode gc_c66 4 = .ok (.iload_n 1, 1) := by decide +kernel
theorem ge_66_5 : decode gc_c66 5 = .ok (.invokevirtual 33, 3) := by decide +kernel
theorem ge_66_8 : decode gc_c66 8 = .ok (.ireturn, 1) := by decide +kernel
theorem ge_67_0 : decode gc_c67 0 = .ok (.iconst (1), 1) := by decide +kernel
theorem ge_67_1 : decode gc_c67 1 = .ok (.aload_n 0, 1) := by decide +kernel
theorem ge_67_2 : decode gc_c67 2 = .ok (.getfield 7, 3) := by decide +kernel
theorem ge_67_5 : decode gc_c67 5 = .ok (.ishl, 1) := by decide +kernel
theorem ge_67_6 : decode gc_c67 6 = .ok (.ireturn, 1) := by decide +kernel
theorem ge_68_0 : decode gc_c68 0 = .ok (.aload_n 0, 1) := by decide +kernel
theorem ge_68_1 : decode gc_c68 1 = .ok (.getfield 9, 3) := by decide +kernel
theorem ge_68_4 : decode gc_c68 4 = .ok (.iload_n 1, 1) := by decide +kernel
theorem ge_68_5 : decode gc_c68 5 = .ok (.invokevirtual 40, 3) := by decide +kernel
theorem ge_68_8 : decode gc_c68 8 = .ok (.ireturn, 1) := by decide +kernel
theorem ge_69_0 : decode gc_c69 0 = .ok (.iconst (0), 1) := by decide +kernel
theorem ge_69_1 : decode gc_c69 1 = .ok (.istore_n 2, 1) := by decide +kernel
theorem ge_69_2 : decode gc_c69 2 = .ok (.iconst (0), 1) := by decide +kernel
theorem ge_69_3 : decode gc_c69 3 = .ok (.istore_n 3, 1) := by decide +kernel
theorem ge_69_4 : decode gc_c69 4 = .ok (.iload_n 3, 1) := by decide +kernel
theorem ge_69_5 : decode gc_c69 5 = .ok (.aload_n 0, 1) := by decide +kernel
theorem ge_69_6 : decode gc_c69 6 = .ok (.getfield 12, 3) := by decide +kernel
theorem ge_69_9 : decode gc_c69 9 = .ok (.invokeinterface 24 1, 5) := by decide +kernel
theorem ge_69_14 : decode gc_c69 14 = .ok (.if_icmp .ge (51), 3) := by decide +kernel
theorem ge_69_17 : decode gc_c69 17 = .ok (.iload_n 2, 1) := by decide +kernel
theorem ge_69_18 : decode gc_c69 18 = .ok (.aload_n 0, 1) := by decide +kernel
theorem ge_69_19 : decode gc_c69 19 = .ok (.getfield 12, 3) := by decide +kernel
theorem ge_69_22 : decode gc_c69 22 = .ok (.iload_n 3, 1) := by decide +kernel
theorem ge_69_23 : decode gc_c69 23 = .ok (.invokeinterface 28 2, 5) := by decide +kernel
theorem ge_69_28 : decode gc_c69 28 = .ok (.checkcast 4, 3) := by decide +kernel
theorem ge_69_31 : decode gc_c69 31 = .ok (.iload_n 1, 1) := by decide +kernel
theorem ge_69_32 : decode gc_c69 32 = .ok (.invokevirtual 40, 3) := by decide +kernel
theorem ge_69_35 : decode gc_c69 35 = .ok (.ior, 1) := by decide +kernel
theorem ge_69_36 : decode gc_c69 36 = .ok (.istore_n 2, 1) := by decide +kernel
theorem ge_69_37 : decode gc_c69 37 = .ok (.aload_n 0, 1) := by decide +kernel
theorem ge_69_38 : decode gc_c69 38 = .ok (.getfield 12, 3) := by decide +kernel
theorem ge_69_41 : decode gc_c69 41 = .ok (.iload_n 3, 1) := by decide +kernel
theorem ge_69_42 : decode gc_c69 42 = .ok (.invokeinterface 28 2, 5) := by decide +kernel
theorem ge_69_47 : decode gc_c69 47 = .ok (.checkcast 4, 3) := by decide +kernel
theorem ge_69_50 : decode gc_c69 50 = .ok (.iload_n 1, 1) := by decide +kernel
theorem ge_69_51 : decode gc_c69 51 = .ok (.invokevirtual 36, 3) := by decide +kernel
theorem ge_69_54 : decode gc_c69 54 = .ok (.ifCond .ne (5), 3) := by decide +kernel
theorem ge_69_57 : decode gc_c69 57 = .ok (.iload_n 2, 1) := by decide +kernel
theorem ge_69_58 : decode gc_c69 58 = .ok (.ireturn, 1) := by decide +kernel
theorem ge_69_59 : decode gc_c69 59 = .ok (.iinc 3 (1), 3) := by decide +kernel
theorem ge_69_62 : decode gc_c69 62 = .ok (.goto (-58), 3) := by decide +kernel
theorem ge_69_65 : decode gc_c69 65 = .ok (.iload_n 2, 1) := by decide +kernel
theorem ge_69_66 : decode gc_c69 66 = .ok (.ireturn, 1) := by decide +kernel
theorem ge_70_0 : decode gc_c70 0 = .ok (.iconst (0), 1) := by decide +kernel
theorem ge_70_1 : decode gc_c70 1 = .ok (.ireturn, 1) := by decide +kernel
theorem ge_71_0 : decode gc_c71 0 = .ok (.iconst (0), 1) := by decide +kernel
theorem ge_71_1 : decode gc_c71 1 = .ok (.istore_n 3, 1) := by decide +kernel
theorem ge_71_2 : decode gc_c71 2 = .ok (.iload_n 3, 1) := by decide +kernel
theorem ge_71_3 : decode gc_c71 3 = .ok (.iconst (4), 1) := by decide +kernel
theorem ge_71_4 : decode gc_c71 4 = .ok (.if_icmp .ge (41), 3) := by decide +kernel
theorem ge_71_7 : decode gc_c71 7 = .ok (.aload_n 0, 1) := by decide +kernel
theorem ge_71_8 : decode gc_c71 8 = .ok (.getfield 11, 3) := by decide +kernel
theorem ge_71_11 : decode gc_c71 11 = .ok (.iload_n 3, 1) := by decide +kernel
theorem ge_71_12 : decode gc_c71 12 = .ok (.aaload, 1) := by decide +kernel
theorem ge_71_13 : decode gc_c71 13 = .ok (.astore 4, 2) := by decide +kernel
theorem ge_71_15 : decode gc_c71 15 = .ok (.iload_n 1, 1) := by decide +kernel
theorem ge_71_16 : decode gc_c71 16 = .ok (.iload_n 3, 1) := by decide +kernel
theorem ge_71_17 : decode gc_c71 17 = .ok (.invokestatic 57, 3) := by decide +kernel
theorem ge_71_20 : decode gc_c71 20 = .ok (.ifCond .eq (19), 3) := by decide +kernel
theorem ge_71_23 : decode gc_c71 23 = .ok (.aload 4, 2) := by decide +kernel
theorem ge_71_25 : decode gc_c71 25 = .ok (.ifnull (14), 3) := by decide +kernel
theorem ge_71_28 : decode gc_c71 28 = .ok (.aload 4, 2) := by decide +kernel
theorem ge_71_30 : decode gc_c71 30 = .ok (.iload_n 2, 1) := by decide +kernel
theorem ge_71_31 : decode gc_c71 31 = .ok (.invokevirtual 69, 3) := by decide +kernel
theorem ge_71_34 : decode gc_c71 34 = .ok (.ifCond .eq (5), 3) := by decide +kernel
theorem ge_71_37 : decode gc_c71 37 = .ok (.iconst (1), 1) := by decide +kernel
theorem ge_71_38 : decode gc_c71 38 = .ok (.ireturn, 1) := by decide +kernel
theorem ge_71_39 : decode gc_c71 39 = .ok (.iinc 3 (1), 3) := by decide +kernel
theorem ge_71_42 : decode gc_c71 42 = .ok (.goto (-40), 3) := by decide +kernel
theorem ge_71_45 : decode gc_c71 45 = .ok (.iconst (0), 1) := by decide +kernel
theorem ge_71_46 : decode gc_c71 46 = .ok (.ireturn, 1) := by decide +kernel
theorem ge_72_0 : decode gc_c72 0 = .ok (.aload_n 0, 1) := by decide +kernel
theorem ge_72_1 : decode gc_c72 1 = .ok (.getfield 7, 3) := by decide +kernel
theorem ge_72_4 : decode gc_c72 4 = .ok (.ifnull (18), 3) := by decide +kernel
theorem ge_72_7 : decode gc_c72 7 = .ok (.aload_n 0, 1) := by decide +kernel
theorem ge_72_8 : decode gc_c72 8 = .ok (.getfield 7, 3) := by decide +kernel
theorem ge_72_11 : decode gc_c72 11 = .ok (.iload_n 1, 1) := by decide +kernel
theorem ge_72_12 : decode gc_c72 12 = .ok (.invokevirtual 34, 3) := by decide +kernel
theorem ge_72_15 : decode gc_c72 15 = .ok (.ifCond .eq (7), 3) := by decide +kernel
theorem ge_72_18 : decode gc_c72 18 = .ok (.iconst (1), 1) := by decide +kernel
theorem ge_72_19 : decode gc_c72 19 = .ok (.goto (4), 3) := by decide +kernel
theorem ge_72_22 : decode gc_c72 22 = .ok (.iconst (0), 1) := by decide +kernel
theorem ge_72_23 : decode gc_c72 23 = .ok (.ireturn, 1) := by decide +kernel
theorem ge_73_0 : decode gc_c73 0 = .ok (.iconst (0), 1) := by decide +kernel
theorem ge_73_1 : decode gc_c73 1 = .ok (.istore_n 2, 1) := by decide +kernel
theorem ge_73_2 : decode gc_c73 2 = .ok (.iload_n 2, 1) := by decide +kernel
theorem ge_73_3 : decode gc_c73 3 = .ok (.aload_n 0, 1) := by decide +kernel
theorem ge_73_4 : decode gc_c73 4 = .ok (.getfield 12, 3) := by decide +kernel
theorem ge_73_7 : decode gc_c73 7 = .ok (.invokeinterface 30 1, 5) := by decide +kernel
theorem ge_73_12 : decode gc_c73 12 = .ok (.if_icmp .ge (31), 3) := by decide +kernel
theorem ge_73_15 : decode gc_c73 15 = .ok (.aload_n 0, 1) := by decide +kernel
theorem ge_73_16 : decode gc_c73 16 = .ok (.getfield 12, 3) := by decide +kernel
theorem ge_73_19 : decode gc_c73 19 = .ok (.iload_n 2, 1) := by decide +kernel
theorem ge_73_20 : decode gc_c73 20 = .ok (.invokeinterface 33 2, 5) := by decide +kernel
theorem ge_73_25 : decode gc_c73 25 = .ok (.checkcast 4, 3) := by decide +kernel
theorem ge_73_28 : decode gc_c73 28 = .ok (.iload_n 1, 1) := by decide +kernel
theorem ge_73_29 : decode gc_c73 29 = .ok (.invokevirtual 53, 3) := by decide +kernel
theorem ge_73_32 : decode gc_c73 32 = .ok (.ifCond .eq (5), 3) := by decide +kernel
theorem ge_73_35 : decode gc_c73 35 = .ok (.iconst (1), 1) := by decide +kernel
theorem ge_73_36 : decode gc_c73 36 = .ok (.ireturn, 1) := by decide +kernel
theorem ge_73_37 : decode gc_c73 37 = .ok (.iinc 2 (1), 3) := by decide +kernel
theorem ge_73_40 : decode gc_c73 40 = .ok (.goto (-38), 3) := by decide +kernel
theorem ge_73_43 : decode gc_c73 43 = .ok (.iconst (0), 1) := by decide +kernel
theorem ge_73_44 : decode gc_c73 44 = .ok (.ireturn, 1) := by decide +kernel
theorem ge_74_0 : decode gc_c74 0 = .ok (.aload_n 0, 1) := by decide +kernel
theorem ge_74_1 : decode gc_c74 1 = .ok (.getfield 9, 3) := by decide +kernel
theorem ge_74_4 : decode gc_c74 4 = .ok (.iload_n 1, 1) := by decide +kernel
theorem ge_74_5 : decode gc_c74 5 = .ok (.invokevirtual 37, 3) := by decide +kernel
theorem ge_74_8 : decode gc_c74 8 = .ok (.ireturn, 1) := by decide +kernel
theorem ge_75_0 : decode gc_c75 0 = .ok (.iconst (0), 1) := by decide +kernel
theorem ge_75_1 : decode gc_c75 1 = .ok (.ireturn, 1) := by decide +kernel
theorem ge_76_0 : decode gc_c76 0 = .ok (.aload_n 0, 1) := by decide +kernel
theorem ge_76_1 : decode gc_c76 1 = .ok (.getfield 19, 3) := by decide +kernel
theorem ge_76_4 : decode gc_c76 4 = .ok (.iconst (1), 1) := by decide +kernel
theorem ge_76_5 : decode gc_c76 5 = .ok (.if_icmp .le (14), 3) := by decide +kernel
theorem ge_76_8 : decode gc_c76 8 = .ok (.aload_n 0, 1) := by decide +kernel
theorem ge_76_9 : decode gc_c76 9 = .ok (.getfield 9, 3) := by decide +kernel
theorem ge_76_12 : decode gc_c76 12 = .ok (.iload_n 1, 1) := by decide +kernel
theorem ge_76_13 : decode gc_c76 13 = .ok (.invokevirtual 36, 3) := by decide +kernel
theorem ge_76_16 : decode gc_c76 16 = .ok (.ifCond .ne (14), 3) := by decide +kernel
theorem ge_76_19 : decode gc_c76 19 = .ok (.aload_n 0, 1) := by decide +kernel
theorem ge_76_20 : decode gc_c76 20 = .ok (.getfield 9, 3) := by decide +kernel
theorem ge_76_23 : decode gc_c76 23 = .ok (.iload_n 1, 1) := by decide +kernel
theorem ge_76_24 : decode gc_c76 24 = .ok (.invokevirtual 44, 3) := by decide +kernel
theorem ge_76_27 : decode gc_c76 27 = .ok (.ifCond .eq (7), 3) := by decide +kernel
theorem ge_76_30 : decode gc_c76 30 = .ok (.iconst (1), 1) := by decide +kernel
theorem ge_76_31 : decode gc_c76 31 = .ok (.goto (4), 3) := by decide +kernel
theorem ge_76_34 : decode gc_c76 34 = .ok (.iconst (0), 1) := by decide +kernel
theorem ge_76_35 : decode gc_c76 35 = .ok (.ireturn, 1) := by decide +kernel
theorem ge_77_0 : decode gc_c77 0 = .ok (.iconst (0), 1) := by decide +kernel
theorem ge_77_1 : decode gc_c77 1 = .ok (.istore_n 2, 1) := by decide +kernel
theorem ge_77_2 : decode gc_c77 2 = .ok (.iload_n 2, 1) := by decide +kernel
theorem ge_77_3 : decode gc_c77 3 = .ok (.aload_n 0, 1) := by decide +kernel
theorem ge_77_4 : decode gc_c77 4 = .ok (.getfield 12, 3) := by decide +kernel
theorem ge_77_7 : decode gc_c77 7 = .ok (.invokeinterface 24 1, 5) := by decide +kernel
theorem ge_77_12 : decode gc_c77 12 = .ok (.if_icmp .ge (31), 3) := by decide +kernel
theorem ge_77_15 : decode gc_c77 15 = .ok (.aload_n 0, 1) := by decide +kernel
theorem ge_77_16 : decode gc_c77 16 = .ok (.getfield 12, 3) := by decide +kernel
theorem ge_77_19 : decode gc_c77 19 = .ok (.iload_n 2, 1) := by decide +kernel
theorem ge_77_20 : decode gc_c77 20 = .ok (.invokeinterface 28 2, 5) := by decide +kernel
theorem ge_77_25 : decode gc_c77 25 = .ok (.checkcast 4, 3) := by decide +kernel
theorem ge_77_28 : decode gc_c77 28 = .ok (.iload_n 1, 1) := by decide +kernel
theorem ge_77_29 : decode gc_c77 29 = .ok (.invokevirtual 44, 3) := by decide +kernel
theorem ge_77_32 : decode gc_c77 32 = .ok (.ifCond .eq (5), 3) := by decide +kernel
theorem ge_77_35 : decode gc_c77 35 = .ok (.iconst (1), 1) := by decide +kernel
theorem ge_77_36 : decode gc_c77 36 = .ok (.ireturn, 1) := by decide +kernel
theorem ge_77_37 : decode gc_c77 37 = .ok (.iinc 2 (1), 3) := by decide +kernel
theorem ge_77_40 : decode gc_c77 40 = .ok (.goto (-38), 3) := by decide +kernel
theorem ge_77_43 : decode gc_c77 43 = .ok (.iconst (0), 1) := by decide +kernel
theorem ge_77_44 : decode gc_c77 44 = .ok (.ireturn, 1) := by decide +kernel
theorem ge_78_0 : decode gc_c78 0 = .ok (.iconst (0), 1) := by decide +kernel
theorem ge_78_1 : decode gc_c78 1 = .ok (.ireturn, 1) := by decide +kernel
theorem ge_79_0 : decode gc_c79 0 = .ok (.iload_n 1, 1) := by decide +kernel
theorem ge_79_1 : decode gc_c79 1 = .ok (.invokestatic 59, 3) := by decide +kernel
theorem ge_79_4 : decode gc_c79 4 = .ok (.iload_n 2, 1) := by decide +kernel
theorem ge_79_5 : decode gc_c79 5 = .ok (.ifCond .lt (11), 3) := by decide +kernel
theorem ge_79_8 : decode gc_c79 8 = .ok (.iload_n 2, 1) := by decide +kernel
theorem ge_79_9 : decode gc_c79 9 = .ok (.aload_n 0, 1) := by decide +kernel
theorem ge_79_10 : decode gc_c79 10 = .ok (.getfield 41, 3) := by decide +kernel
theorem ge_79_13 : decode gc_c79 13 = .ok (.if_icmp .le (11), 3) := by decide +kernel
theorem ge_79_16 : decode gc_c79 16 = .ok (.new 78, 3) := by decide +kernel
theorem ge_79_19 : decode gc_c79 19 = .ok (.dup, 1) := by decide +kernel
theorem ge_79_20 : decode gc_c79 20 = .ok (.invokespecial 80, 3) := by decide +kernel
theorem ge_79_23 : decode gc_c79 23 = .ok (.athrow, 1) := by decide +kernel
theorem ge_79_24 : decode gc_c79 24 = .ok (.aload_n 0, 1) := by decide +kernel
theorem ge_79_25 : decode gc_c79 25 = .ok (.iload_n 1, 1) := by decide +kernel
theorem ge_79_26 : decode gc_c79 26 = .ok (.invokevirtual 81, 3) := by decide +kernel
theorem ge_79_29 : decode gc_c79 29 = .ok (.aload_n 0, 1) := by decide +kernel
theorem ge_79_30 : decode gc_c79 30 = .ok (.getfield 33, 3) := by decide +kernel
theorem ge_79_33 : decode gc_c79 33 = .ok (.aload_n 0, 1) := by decide +kernel
theorem ge_79_34 : decode gc_c79 34 = .ok (.getfield 26, 3) := by decide +kernel
theorem ge_79_37 : decode gc_c79 37 = .ok (.aload_n 0, 1) := by decide +kernel
theorem ge_79_38 : decode gc_c79 38 = .ok (.getfield 13, 3) := by decide +kernel
theorem ge_79_41 : decode gc_c79 41 = .ok (.aload_n 0, 1) := by decide +kernel
theorem ge_79_42 : decode gc_c79 42 = .ok (.getfield 41, 3) := by decide +kernel
theorem ge_79_45 : decode gc_c79 45 = .ok (.iload_n 2, 1) := by decide +kernel
theorem ge_79_46 : decode gc_c79 46 = .ok (.invokevirtual 84, 3) := by decide +kernel
theorem ge_79_49 : decode gc_c79 49 = .ok (.aload_n 0, 1) := by decide +kernel
theorem ge_79_50 : decode gc_c79 50 = .ok (.iload_n 1, 1) := by decide +kernel
theorem ge_79_51 : decode gc_c79 51 = .ok (.iload_n 2, 1) := by decide +kernel
theorem ge_79_52 : decode gc_c79 52 = .ok (.invokestatic 88, 3) := by decide +kernel
theorem ge_79_55 : decode gc_c79 55 = .ok (.putfield 44, 3) := by decide +kernel
theorem ge_79_58 : decode gc_c79 58 = .ok (.aload_n 0, 1) := by decide +kernel
theorem ge_79_59 : decode gc_c79 59 = .ok (.getfield 33, 3) := by decide +kernel
theorem ge_79_62 : decode gc_c79 62 = .ok (.aload_n 0, 1) := by decide +kernel
theorem ge_79_63 : decode gc_c79 63 = .ok (.getfield 44, 3) := by decide +kernel
theorem ge_79_66 : decode gc_c79 66 = .ok (.invokevirtual 92, 3) := by decide +kernel
theorem ge_79_69 : decode gc_c79 69 = .ok (.ireturn, 1) := by decide +kernel
theorem ge_80_0 : decode gc_c80 0 = .ok (.aload_n 0, 1) := by decide +kernel
theorem ge_80_1 : decode gc_c80 1 = .ok (.getfield 26, 3) := by decide +kernel
theorem ge_80_4 : decode gc_c80 4 = .ok (.iload_n 1, 1) := by decide +kernel
theorem ge_80_5 : decode gc_c80 5 = .ok (.invokevirtual 74, 3) := by decide +kernel
theorem ge_80_8 : decode gc_c80 8 = .ok (.ifCond .eq (11), 3) := by decide +kernel
theorem ge_80_11 : decode gc_c80 11 = .ok (.new 114, 3) := by decide +kernel
theorem ge_80_14 : decode gc_c80 14 = .ok (.dup, 1) := by decide +kernel
theorem ge_80_15 : decode gc_c80 15 = .ok (.invokespecial 116, 3) := by decide +kernel
theorem ge_80_18 : decode gc_c80 18 = .ok (.athrow, 1) := by decide +kernel
theorem ge_80_19 : decode gc_c80 19 = .ok (.return_, 1) := by decide +kernel
theorem ge_81_0 : decode gc_c81 0 = .ok (.aload_n 2, 1) := by decide +kernel
theorem ge_81_1 : decode gc_c81 1 = .ok (.iconst (0), 1) := by decide +kernel
theorem ge_81_2 : decode gc_c81 2 = .ok (.aload_n 0, 1) := by decide +kernel
theorem ge_81_3 : decode gc_c81 3 = .ok (.getfield 9, 3) := by decide +kernel
theorem ge_81_6 : decode gc_c81 6 = .ok (.iconst (0), 1) := by decide +kernel
theorem ge_81_7 : decode gc_c81 7 = .ok (.iload_n 3, 1) := by decide +kernel
theorem ge_81_8 : decode gc_c81 8 = .ok (.invokestatic 42, 3) := by decide +kernel
theorem ge_81_11 : decode gc_c81 11 = .ok (.aload_n 0, 1) := by decide +kernel
theorem ge_81_12 : decode gc_c81 12 = .ok (.iload_n 3, 1) := by decide +kernel
theorem ge_81_13 : decode gc_c81 13 = .ok (.putfield 15, 3) := by decide +kernel
theorem ge_81_16 : decode gc_c81 16 = .ok (.aload_n 0, 1) := by decide +kernel
theorem ge_81_17 : decode gc_c81 17 = .ok (.getfield 15, 3) := by decide +kernel
theorem ge_81_20 : decode gc_c81 20 = .ok (.istore 5, 2) := by decide +kernel
theorem ge_81_22 : decode gc_c81 22 = .ok (.iload 5, 2) := by decide +kernel
theorem ge_81_24 : decode gc_c81 24 = .ok (.iload 4, 2) := by decide +kernel
theorem ge_81_26 : decode gc_c81 26 = .ok (.if_icmp .lt (65), 3) := by decide +kernel
theorem ge_81_29 : decode gc_c81 29 = .ok (.iconst (0), 1) := by decide +kernel
theorem ge_81_30 : decode gc_c81 30 = .ok (.istore 6, 2) := by decide +kernel
theorem ge_81_32 : decode gc_c81 32 = .ok (.iload 6, 2) := by decide +kernel
theorem ge_81_34 : decode gc_c81 34 = .ok (.aload_n 1, 1) := by decide +kernel
theorem ge_81_35 : decode gc_c81 35 = .ok (.getfield 48, 3) := by decide +kernel
theorem ge_81_38 : decode gc_c81 38 = .ok (.if_icmp .ge (47), 3) := by decide +kernel
theorem ge_81_41 : decode gc_c81 41 = .ok (.aload_n 1, 1) := by decide +kernel
theorem ge_81_42 : decode gc_c81 42 = .ok (.getfield 53, 3) := by decide +kernel
theorem ge_81_45 : decode gc_c81 45 = .ok (.iload 6, 2) := by decide +kernel
theorem ge_81_47 : decode gc_c81 47 = .ok (.iaload, 1) := by decide +kernel
theorem ge_81_48 : decode gc_c81 48 = .ok (.istore 7, 2) := by decide +kernel
theorem ge_81_50 : decode gc_c81 50 = .ok (.aload_n 1, 1) := by decide +kernel
theorem ge_81_51 : decode gc_c81 51 = .ok (.getfield 56, 3) := by decide +kernel
theorem ge_81_54 : decode gc_c81 54 = .ok (.iload 7, 2) := by decide +kernel
theorem ge_81_56 : decode gc_c81 56 = .ok (.aaload, 1) := by decide +kernel
theorem ge_81_57 : decode gc_c81 57 = .ok (.astore 8, 2) := by decide +kernel
theorem ge_81_59 : decode gc_c81 59 = .ok (.aload 8, 2) := by decide +kernel
theorem ge_81_61 : decode gc_c81 61 = .ok (.ifnull (18), 3) := by decide +kernel
theorem ge_81_64 : decode gc_c81 64 = .ok (.aload_n 0, 1) := by decide +kernel
theorem ge_81_65 : decode gc_c81 65 = .ok (.iload 7, 2) := by decide +kernel
theorem ge_81_67 : decode gc_c81 67 = .ok (.iload 5, 2) := by decide +kernel
theorem ge_81_69 : decode gc_c81 69 = .ok (.invokestatic 60, 3) := by decide +kernel
theorem ge_81_72 : decode gc_c81 72 = .ok (.aload 8, 2) := by decide +kernel
theorem ge_81_74 : decode gc_c81 74 = .ok (.iload 5, 2) := by decide +kernel
theorem ge_81_76 : decode gc_c81 76 = .ok (.invokevirtual 64, 3) := by decide +kernel
theorem ge_81_79 : decode gc_c81 79 = .ok (.iinc 6 (1), 3) := by decide +kernel
theorem ge_81_82 : decode gc_c81 82 = .ok (.goto (-50), 3) := by decide +kernel
theorem ge_81_85 : decode gc_c81 85 = .ok (.iinc 5 (-1), 3) := by decide +kernel
theorem ge_81_88 : decode gc_c81 88 = .ok (.goto (-66), 3) := by decide +kernel
theorem ge_81_91 : decode gc_c81 91 = .ok (.return_, 1) := by decide +kernel
theorem ge_82_0 : decode gc_c82 0 = .ok (.iload_n 0, 1) := by decide +kernel
theorem ge_82_1 : decode gc_c82 1 = .ok (.bipush (10), 2) := by decide +kernel
theorem ge_82_3 : decode gc_c82 3 = .ok (.imul, 1) := by decide +kernel
theorem ge_82_4 : decode gc_c82 4 = .ok (.iload_n 1, 1) := by decide +kernel
theorem ge_82_5 : decode gc_c82 5 = .ok (.iadd, 1) := by decide +kernel
theorem ge_82_6 : decode gc_c82 6 = .ok (.ireturn, 1) := by decide +kernel
theorem ge_83_0 : decode gc_c83 0 = .ok (.aload_n 0, 1) := by decide +kernel
theorem ge_83_1 : decode gc_c83 1 = .ok (.iload_n 1, 1) := by decide +kernel
theorem ge_83_2 : decode gc_c83 2 = .ok (.putfield 19, 3) := by decide +kernel
theorem ge_83_5 : decode gc_c83 5 = .ok (.aload_n 0, 1) := by decide +kernel
theorem ge_83_6 : decode gc_c83 6 = .ok (.getfield 33, 3) := by decide +kernel
theorem ge_83_9 : decode gc_c83 9 = .ok (.aload_n 0, 1) := by decide +kernel
theorem ge_83_10 : decode gc_c83 10 = .ok (.getfield 19, 3) := by decide +kernel
theorem ge_83_13 : decode gc_c83 13 = .ok (.iconst (0), 1) := by decide +kernel
theorem ge_83_14 : decode gc_c83 14 = .ok (.iastore, 1) := by decide +kernel
theorem ge_83_15 : decode gc_c83 15 = .ok (.aload_n 0, 1) := by decide +kernel
theorem ge_83_16 : decode gc_c83 16 = .ok (.getfield 26, 3) := by decide +kernel
theorem ge_83_19 : decode gc_c83 19 = .ok (.aload_n 0, 1) := by decide +kernel
theorem ge_83_20 : decode gc_c83 20 = .ok (.getfield 19, 3) := by decide +kernel
theorem ge_83_23 : decode gc_c83 23 = .ok (.iconst (-1), 1) := by decide +kernel
theorem ge_83_24 : decode gc_c83 24 = .ok (.iastore, 1) := by decide +kernel
theorem ge_83_25 : decode gc_c83 25 = .ok (.aload_n 0, 1) := by decide +kernel
theorem ge_83_26 : decode gc_c83 26 = .ok (.getfield 29, 3) := by decide +kernel
theorem ge_83_29 : decode gc_c83 29 = .ok (.aload_n 0, 1) := by decide +kernel
theorem ge_83_30 : decode gc_c83 30 = .ok (.getfield 19, 3) := by decide +kernel
theorem ge_83_33 : decode gc_c83 33 = .ok (.lconst 1, 1) := by decide +kernel
theorem ge_83_34 : decode gc_c83 34 = .ok (.aload_n 0, 1) := by decide +kernel
theorem ge_83_35 : decode gc_c83 35 = .ok (.getfield 19, 3) := by decide +kernel
theorem ge_83_38 : decode gc_c83 38 = .ok (.lshl, 1) := by decide +kernel
theorem ge_83_39 : decode gc_c83 39 = .ok (.lastore, 1) := by decide +kernel
theorem ge_83_40 : decode gc_c83 40 = .ok (.aload_n 0, 1) := by decide +kernel
theorem ge_83_41 : decode gc_c83 41 = .ok (.getfield 22, 3) := by decide +kernel
theorem ge_83_44 : decode gc_c83 44 = .ok (.aload_n 0, 1) := by decide +kernel
theorem ge_83_45 : decode gc_c83 45 = .ok (.getfield 19, 3) := by decide +kernel
theorem ge_83_48 : decode gc_c83 48 = .ok (.aload_n 2, 1) := by decide +kernel
theorem ge_83_49 : decode gc_c83 49 = .ok (.iload_n 3, 1) := by decide +kernel
theorem ge_83_50 : decode gc_c83 50 = .ok (.aload_n 0, 1) := by decide +kernel
theorem ge_83_51 : decode gc_c83 51 = .ok (.invokevirtual 68, 3) := by decide +kernel
theorem ge_83_54 : decode gc_c83 54 = .ok (.iastore, 1) := by decide +kernel
theorem ge_83_55 : decode gc_c83 55 = .ok (.aload_n 0, 1) := by decide +kernel
theorem ge_83_56 : decode gc_c83 56 = .ok (.getfield 22, 3) := by decide +kernel
theorem ge_83_59 : decode gc_c83 59 = .ok (.aload_n 0, 1) := by decide +kernel
theorem ge_83_60 : decode gc_c83 60 = .ok (.getfield 19, 3) := by decide +kernel
theorem ge_83_63 : decode gc_c83 63 = .ok (.iaload, 1) := by decide +kernel
theorem ge_83_64 : decode gc_c83 64 = .ok (.iconst (-1), 1) := by decide +kernel
theorem ge_83_65 : decode gc_c83 65 = .ok (.if_icmp .ne (13), 3) := by decide +kernel
theorem ge_83_68 : decode gc_c83 68 = .ok (.aload_n 0, 1) := by decide +kernel
theorem ge_83_69 : decode gc_c83 69 = .ok (.getfield 33, 3) := by decide +kernel
theorem ge_83_72 : decode gc_c83 72 = .ok (.aload_n 0, 1) := by decide +kernel
theorem ge_83_73 : decode gc_c83 73 = .ok (.getfield 19, 3) := by decide +kernel
theorem ge_83_76 : decode gc_c83 76 = .ok (.iconst (0), 1) := by decide +kernel
theorem ge_83_77 : decode gc_c83 77 = .ok (.iastore, 1) := by decide +kernel
theorem ge_83_78 : decode gc_c83 78 = .ok (.return_, 1) := by decide +kernel
theorem ge_84_0 : decode gc_c84 0 = .ok (.aload_n 2, 1) := by decide +kernel
theorem ge_84_1 : decode gc_c84 1 = .ok (.iload_n 1, 1) := by decide +kernel
theorem ge_84_2 : decode gc_c84 2 = .ok (.invokevirtual 13, 3) := by decide +kernel
theorem ge_84_5 : decode gc_c84 5 = .ok (.istore_n 3, 1) := by decide +kernel
theorem ge_84_6 : decode gc_c84 6 = .ok (.aload_n 0, 1) := by decide +kernel
theorem ge_84_7 : decode gc_c84 7 = .ok (.getfield 7, 3) := by decide +kernel
theorem ge_84_10 : decode gc_c84 10 = .ok (.ifnonnull (7), 3) := by decide +kernel
theorem ge_84_13 : decode gc_c84 13 = .ok (.iload_n 1, 1) := by decide +kernel
theorem ge_84_14 : decode gc_c84 14 = .ok (.goto (12), 3) := by decide +kernel
theorem ge_84_17 : decode gc_c84 17 = .ok (.aload_n 0, 1) := by decide +kernel
theorem ge_84_18 : decode gc_c84 18 = .ok (.getfield 7, 3) := by decide +kernel
theorem ge_84_21 : decode gc_c84 21 = .ok (.iload_n 1, 1) := by decide +kernel
theorem ge_84_22 : decode gc_c84 22 = .ok (.aload_n 2, 1) := by decide +kernel
theorem ge_84_23 : decode gc_c84 23 = .ok (.invokevirtual 19, 3) := by decide +kernel
theorem ge_84_26 : decode gc_c84 26 = .ok (.istore 4, 2) := by decide +kernel
theorem ge_84_28 : decode gc_c84 28 = .ok (.aload_n 2, 1) := by decide +kernel
theorem ge_84_29 : decode gc_c84 29 = .ok (.iload_n 3, 1) := by decide +kernel
theorem ge_84_30 : decode gc_c84 30 = .ok (.iload 4, 2) := by decide +kernel
theorem ge_84_32 : decode gc_c84 32 = .ok (.invokevirtual 23, 3) := by decide +kernel
theorem ge_84_35 : decode gc_c84 35 = .ok (.iload 4, 2) := by decide +kernel
theorem ge_84_37 : decode gc_c84 37 = .ok (.ireturn, 1) := by decide +kernel
theorem ge_85_0 : decode gc_c85 0 = .ok (.aload_n 0, 1) := by decide +kernel
theorem ge_85_1 : decode gc_c85 1 = .ok (.getfield 33, 3) := by decide +kernel
theorem ge_85_4 : decode gc_c85 4 = .ok (.aload_n 0, 1) := by decide +kernel
theorem ge_85_5 : decode gc_c85 5 = .ok (.getfield 19, 3) := by decide +kernel
theorem ge_85_8 : decode gc_c85 8 = .ok (.iaload, 1) := by decide +kernel
theorem ge_85_9 : decode gc_c85 9 = .ok (.istore_n 2, 1) := by decide +kernel
theorem ge_85_10 : decode gc_c85 10 = .ok (.iload_n 2, 1) := by decide +kernel
theorem ge_85_11 : decode gc_c85 11 = .ok (.bipush (40), 2) := by decide +kernel
theorem ge_85_13 : decode gc_c85 13 = .ok (.if_icmp .lt (5), 3) := by decide +kernel
theorem ge_85_16 : decode gc_c85 16 = .ok (.iconst (-1), 1) := by decide +kernel
theorem ge_85_17 : decode gc_c85 17 = .ok (.ireturn, 1) := by decide +kernel
theorem ge_85_18 : decode gc_c85 18 = .ok (.aload_n 0, 1) := by decide +kernel
theorem ge_85_19 : decode gc_c85 19 = .ok (.getfield 36, 3) := by decide +kernel
theorem ge_85_22 : decode gc_c85 22 = .ok (.aload_n 0, 1) := by decide +kernel
theorem ge_85_23 : decode gc_c85 23 = .ok (.getfield 19, 3) := by decide +kernel
theorem ge_85_26 : decode gc_c85 26 = .ok (.bipush (40), 2) := by decide +kernel
theorem ge_85_28 : decode gc_c85 28 = .ok (.imul, 1) := by decide +kernel
theorem ge_85_29 : decode gc_c85 29 = .ok (.iload_n 2, 1) := by decide +kernel
theorem ge_85_30 : decode gc_c85 30 = .ok (.iadd, 1) := by decide +kernel
theorem ge_85_31 : decode gc_c85 31 = .ok (.iload_n 1, 1) := by decide +kernel
theorem ge_85_32 : decode gc_c85 32 = .ok (.iastore, 1) := by decide +kernel
theorem ge_85_33 : decode gc_c85 33 = .ok (.aload_n 0, 1) := by decide +kernel
theorem ge_85_34 : decode gc_c85 34 = .ok (.getfield 33, 3) := by decide +kernel
theorem ge_85_37 : decode gc_c85 37 = .ok (.aload_n 0, 1) := by decide +kernel
theorem ge_85_38 : decode gc_c85 38 = .ok (.getfield 19, 3) := by decide +kernel
theorem ge_85_41 : decode gc_c85 41 = .ok (.iload_n 2, 1) := by decide +kernel
theorem ge_85_42 : decode gc_c85 42 = .ok (.iconst (1), 1) := by decide +kernel
theorem ge_85_43 : decode gc_c85 43 = .ok (.iadd, 1) := by decide +kernel
theorem ge_85_44 : decode gc_c85 44 = .ok (.iastore, 1) := by decide +kernel
theorem ge_85_45 : decode gc_c85 45 = .ok (.iload_n 2, 1) := by decide +kernel
theorem ge_85_46 : decode gc_c85 46 = .ok (.ireturn, 1) := by decide +kernel
theorem ge_86_0 : decode gc_c86 0 = .ok (.aload_n 2, 1) := by decide +kernel
theorem ge_86_1 : decode gc_c86 1 = .ok (.invokevirtual 24, 3) := by decide +kernel
theorem ge_86_4 : decode gc_c86 4 = .ok (.istore_n 3, 1) := by decide +kernel
theorem ge_86_5 : decode gc_c86 5 = .ok (.iconst (0), 1) := by decide +kernel
theorem ge_86_6 : decode gc_c86 6 = .ok (.istore 4, 2) := by decide +kernel
theorem ge_86_8 : decode gc_c86 8 = .ok (.iload 4, 2) := by decide +kernel
theorem ge_86_10 : decode gc_c86 10 = .ok (.aload_n 0, 1) := by decide +kernel
theorem ge_86_11 : decode gc_c86 11 = .ok (.getfield 12, 3) := by decide +kernel
theorem ge_86_14 : decode gc_c86 14 = .ok (.invokeinterface 30 1, 5) := by decide +kernel
theorem ge_86_19 : decode gc_c86 19 = .ok (.if_icmp .ge (44), 3) := by decide +kernel
theorem ge_86_22 : decode gc_c86 22 = .ok (.aload_n 0, 1) := by decide +kernel
theorem ge_86_23 : decode gc_c86 23 = .ok (.getfield 12, 3) := by decide +kernel
theorem ge_86_26 : decode gc_c86 26 = .ok (.iload 4, 2) := by decide +kernel
theorem ge_86_28 : decode gc_c86 28 = .ok (.invokeinterface 33 2, 5) := by decide +kernel
theorem ge_86_33 : decode gc_c86 33 = .ok (.checkcast 4, 3) := by decide +kernel
theorem ge_86_36 : decode gc_c86 36 = .ok (.iload_n 1, 1) := by decide +kernel
theorem ge_86_37 : decode gc_c86 37 = .ok (.aload_n 2, 1) := by decide +kernel
theorem ge_86_38 : decode gc_c86 38 = .ok (.invokevirtual 37, 3) := by decide +kernel
theorem ge_86_41 : decode gc_c86 41 = .ok (.istore 5, 2) := by decide +kernel
theorem ge_86_43 : decode gc_c86 43 = .ok (.iload 5, 2) := by decide +kernel
theorem ge_86_45 : decode gc_c86 45 = .ok (.iconst (-1), 1) := by decide +kernel
theorem ge_86_46 : decode gc_c86 46 = .ok (.if_icmp .eq (6), 3) := by decide +kernel
theorem ge_86_49 : decode gc_c86 49 = .ok (.iload 5, 2) := by decide +kernel
theorem ge_86_51 : decode gc_c86 51 = .ok (.ireturn, 1) := by decide +kernel
theorem ge_86_52 : decode gc_c86 52 = .ok (.aload_n 2, 1) := by decide +kernel
theorem ge_86_53 : decode gc_c86 53 = .ok (.iload_n 3, 1) := by decide +kernel
theorem ge_86_54 : decode gc_c86 54 = .ok (.invokevirtual 41, 3) := by decide +kernel
theorem ge_86_57 : decode gc_c86 57 = .ok (.iinc 4 (1), 3) := by decide +kernel
theorem ge_86_60 : decode gc_c86 60 = .ok (.goto (-52), 3) := by decide +kernel
theorem ge_86_63 : decode gc_c86 63 = .ok (.iconst (-1), 1) := by decide +kernel
theorem ge_86_64 : decode gc_c86 64 = .ok (.ireturn, 1) := by decide +kernel
theorem ge_87_0 : decode gc_c87 0 = .ok (.aload_n 0, 1) := by decide +kernel
theorem ge_87_1 : decode gc_c87 1 = .ok (.getfield 33, 3) := by decide +kernel
theorem ge_87_4 : decode gc_c87 4 = .ok (.aload_n 0, 1) := by decide +kernel
theorem ge_87_5 : decode gc_c87 5 = .ok (.getfield 19, 3) := by decide +kernel
theorem ge_87_8 : decode gc_c87 8 = .ok (.iaload, 1) := by decide +kernel
theorem ge_87_9 : decode gc_c87 9 = .ok (.ireturn, 1) := by decide +kernel
theorem ge_88_0 : decode gc_c88 0 = .ok (.aload_n 2, 1) := by decide +kernel
theorem ge_88_1 : decode gc_c88 1 = .ok (.invokevirtual 19, 3) := by decide +kernel
theorem ge_88_4 : decode gc_c88 4 = .ok (.istore_n 3, 1) := by decide +kernel
theorem ge_88_5 : decode gc_c88 5 = .ok (.aload_n 0, 1) := by decide +kernel
theorem ge_88_6 : decode gc_c88 6 = .ok (.getfield 9, 3) := by decide +kernel
theorem ge_88_9 : decode gc_c88 9 = .ok (.iload_n 1, 1) := by decide +kernel
theorem ge_88_10 : decode gc_c88 10 = .ok (.aload_n 2, 1) := by decide +kernel
theorem ge_88_11 : decode gc_c88 11 = .ok (.invokevirtual 25, 3) := by decide +kernel
theorem ge_88_14 : decode gc_c88 14 = .ok (.iconst (-1), 1) := by decide +kernel
theorem ge_88_15 : decode gc_c88 15 = .ok (.if_icmp .eq (7), 3) := by decide +kernel
theorem ge_88_18 : decode gc_c88 18 = .ok (.iconst (1), 1) := by decide +kernel
theorem ge_88_19 : decode gc_c88 19 = .ok (.goto (4), 3) := by decide +kernel
theorem ge_88_22 : decode gc_c88 22 = .ok (.iconst (0), 1) := by decide +kernel
theorem ge_88_23 : decode gc_c88 23 = .ok (.istore 4, 2) := by decide +kernel
theorem ge_88_25 : decode gc_c88 25 = .ok (.aload_n 2, 1) := by decide +kernel
theorem ge_88_26 : decode gc_c88 26 = .ok (.iload_n 3, 1) := by decide +kernel
theorem ge_88_27 : decode gc_c88 27 = .ok (.invokevirtual 29, 3) := by decide +kernel
theorem ge_88_30 : decode gc_c88 30 = .ok (.iload 4, 2) := by decide +kernel
theorem ge_88_32 : decode gc_c88 32 = .ok (.aload_n 0, 1) := by decide +kernel
theorem ge_88_33 : decode gc_c88 33 = .ok (.getfield 15, 3) := by decide +kernel
theorem ge_88_36 : decode gc_c88 36 = .ok (.if_icmp .ne (7), 3) := by decide +kernel
theorem ge_88_39 : decode gc_c88 39 = .ok (.iload_n 1, 1) := by decide +kernel
theorem ge_88_40 : decode gc_c88 40 = .ok (.goto (4), 3) := by decide +kernel
theorem ge_88_43 : decode gc_c88 43 = .ok (.iconst (-1), 1) := by decide +kernel
theorem ge_88_44 : decode gc_c88 44 = .ok (.ireturn, 1) := by decide +kernel
theorem ge_89_0 : decode gc_c89 0 = .ok (.aload_n 2, 1) := by decide +kernel
theorem ge_89_1 : decode gc_c89 1 = .ok (.aload_n 0, 1) := by decide +kernel
theorem ge_89_2 : decode gc_c89 2 = .ok (.getfield 7, 3) := by decide +kernel
theorem ge_89_5 : decode gc_c89 5 = .ok (.iload_n 1, 1) := by decide +kernel
theorem ge_89_6 : decode gc_c89 6 = .ok (.invokevirtual 13, 3) := by decide +kernel
theorem ge_89_9 : decode gc_c89 9 = .ok (.ireturn, 1) := by decide +kernel
theorem ge_90_0 : decode gc_c90 0 = .ok (.iload_n 1, 1) := by decide +kernel
theorem ge_90_1 : decode gc_c90 1 = .ok (.iload_n 2, 1) := by decide +kernel
theorem ge_90_2 : decode gc_c90 2 = .ok (.invokestatic 60, 3) := by decide +kernel
theorem ge_90_5 : decode gc_c90 5 = .ok (.istore_n 3, 1) := by decide +kernel
theorem ge_90_6 : decode gc_c90 6 = .ok (.aload_n 0, 1) := by decide +kernel
theorem ge_90_7 : decode gc_c90 7 = .ok (.getfield 29, 3) := by decide +kernel
theorem ge_90_10 : decode gc_c90 10 = .ok (.aload_n 0, 1) := by decide +kernel
theorem ge_90_11 : decode gc_c90 11 = .ok (.getfield 19, 3) := by decide +kernel
theorem ge_90_14 : decode gc_c90 14 = .ok (.dup2, 1) := by decide +kernel
theorem ge_90_15 : decode gc_c90 15 = .ok (.laload, 1) := by decide +kernel
theorem ge_90_16 : decode gc_c90 16 = .ok (.aload_n 0, 1) := by decide +kernel
theorem ge_90_17 : decode gc_c90 17 = .ok (.getfield 29, 3) := by decide +kernel
theorem ge_90_20 : decode gc_c90 20 = .ok (.iload_n 3, 1) := by decide +kernel
theorem ge_90_21 : decode gc_c90 21 = .ok (.laload, 1) := by decide +kernel
theorem ge_90_22 : decode gc_c90 22 = .ok (.lor, 1) := by decide +kernel
theorem ge_90_23 : decode gc_c90 23 = .ok (.lastore, 1) := by decide +kernel
theorem ge_90_24 : decode gc_c90 24 = .ok (.aload_n 0, 1) := by decide +kernel
theorem ge_90_25 : decode gc_c90 25 = .ok (.getfield 26, 3) := by decide +kernel
theorem ge_90_28 : decode gc_c90 28 = .ok (.aload_n 0, 1) := by decide +kernel
theorem ge_90_29 : decode gc_c90 29 = .ok (.getfield 19, 3) := by decide +kernel
theorem ge_90_32 : decode gc_c90 32 = .ok (.aload_n 0, 1) := by decide +kernel
theorem ge_90_33 : decode gc_c90 33 = .ok (.getfield 26, 3) := by decide +kernel
theorem ge_90_36 : decode gc_c90 36 = .ok (.aload_n 0, 1) := by decide +kernel
theorem ge_90_37 : decode gc_c90 37 = .ok (.getfield 19, 3) := by decide +kernel
theorem ge_90_40 : decode gc_c90 40 = .ok (.iaload, 1) := by decide +kernel
theorem ge_90_41 : decode gc_c90 41 = .ok (.aload_n 0, 1) := by decide +kernel
theorem ge_90_42 : decode gc_c90 42 = .ok (.getfield 26, 3) := by decide +kernel
theorem ge_90_45 : decode gc_c90 45 = .ok (.iload_n 3, 1) := by decide +kernel
theorem ge_90_46 : decode gc_c90 46 = .ok (.iaload, 1) := by decide +kernel
theorem ge_90_47 : decode gc_c90 47 = .ok (.invokestatic 80, 3) := by decide +kernel
theorem ge_90_50 : decode gc_c90 50 = .ok (.iastore, 1) := by decide +kernel
theorem ge_90_51 : decode gc_c90 51 = .ok (.iconst (0), 1) := by decide +kernel
theorem ge_90_52 : decode gc_c90 52 = .ok (.istore 4, 2) := by decide +kernel
theorem ge_90_54 : decode gc_c90 54 = .ok (.iload 4, 2) := by decide +kernel
theorem ge_90_56 : decode gc_c90 56 = .ok (.aload_n 0, 1) := by decide +kernel
theorem ge_90_57 : decode gc_c90 57 = .ok (.getfield 33, 3) := by decide +kernel
theorem ge_90_60 : decode gc_c90 60 = .ok (.iload_n 3, 1) := by decide +kernel
theorem ge_90_61 : decode gc_c90 61 = .ok (.iaload, 1) := by decide +kernel
theorem ge_90_62 : decode gc_c90 62 = .ok (.if_icmp .ge (35), 3) := by decide +kernel
theorem ge_90_65 : decode gc_c90 65 = .ok (.aload_n 0, 1) := by decide +kernel
theorem ge_90_66 : decode gc_c90 66 = .ok (.aload_n 0, 1) := by decide +kernel
theorem ge_90_67 : decode gc_c90 67 = .ok (.iload_n 3, 1) := by decide +kernel
theorem ge_90_68 : decode gc_c90 68 = .ok (.iload 4, 2) := by decide +kernel
theorem ge_90_70 : decode gc_c90 70 = .ok (.invokevirtual 85, 3) := by decide +kernel
theorem ge_90_73 : decode gc_c90 73 = .ok (.invokevirtual 88, 3) := by decide +kernel
theorem ge_90_76 : decode gc_c90 76 = .ok (.istore 5, 2) := by decide +kernel
theorem ge_90_78 : decode gc_c90 78 = .ok (.aload_n 0, 1) := by decide +kernel
theorem ge_90_79 : decode gc_c90 79 = .ok (.iload 5, 2) := by decide +kernel
theorem ge_90_81 : decode gc_c90 81 = .ok (.aload_n 0, 1) := by decide +kernel
theorem ge_90_82 : decode gc_c90 82 = .ok (.iload_n 3, 1) := by decide +kernel
theorem ge_90_83 : decode gc_c90 83 = .ok (.iload 4, 2) := by decide +kernel
theorem ge_90_85 : decode gc_c90 85 = .ok (.invokevirtual 92, 3) := by decide +kernel
theorem ge_90_88 : decode gc_c90 88 = .ok (.invokevirtual 95, 3) := by decide +kernel
theorem ge_90_91 : decode gc_c90 91 = .ok (.iinc 4 (1), 3) := by decide +kernel
theorem ge_90_94 : decode gc_c90 94 = .ok (.goto (-40), 3) := by decide +kernel
theorem ge_90_97 : decode gc_c90 97 = .ok (.aload_n 0, 1) := by decide +kernel
theorem ge_90_98 : decode gc_c90 98 = .ok (.getfield 22, 3) := by decide +kernel
theorem ge_90_101 : decode gc_c90 101 = .ok (.iload_n 3, 1) := by decide +kernel
theorem ge_90_102 : decode gc_c90 102 = .ok (.iaload, 1) := by decide +kernel
theorem ge_90_103 : decode gc_c90 103 = .ok (.ireturn, 1) := by decide +kernel
theorem ge_91_0 : decode gc_c91 0 = .ok (.aload_n 0, 1) := by decide +kernel
theorem ge_91_1 : decode gc_c91 1 = .ok (.getfield 36, 3) := by decide +kernel
theorem ge_91_4 : decode gc_c91 4 = .ok (.iload_n 1, 1) := by decide +kernel
theorem ge_91_5 : decode gc_c91 5 = .ok (.bipush (40), 2) := by decide +kernel
theorem ge_91_7 : decode gc_c91 7 = .ok (.imul, 1) := by decide +kernel
theorem ge_91_8 : decode gc_c91 8 = .ok (.iload_n 2, 1) := by decide +kernel
theorem ge_91_9 : decode gc_c91 9 = .ok (.iadd, 1) := by decide +kernel
theorem ge_91_10 : decode gc_c91 10 = .ok (.iaload, 1) := by decide +kernel
theorem ge_91_11 : decode gc_c91 11 = .ok (.ireturn, 1) := by decide +kernel
theorem ge_92_0 : decode gc_c92 0 = .ok (.aload_n 0, 1) := by decide +kernel
theorem ge_92_1 : decode gc_c92 1 = .ok (.getfield 39, 3) := by decide +kernel
theorem ge_92_4 : decode gc_c92 4 = .ok (.iload_n 1, 1) := by decide +kernel
theorem ge_92_5 : decode gc_c92 5 = .ok (.bipush (40), 2) := by decide +kernel
theorem ge_92_7 : decode gc_c92 7 = .ok (.imul, 1) := by decide +kernel
theorem ge_92_8 : decode gc_c92 8 = .ok (.iload_n 2, 1) := by decide +kernel
theorem ge_92_9 : decode gc_c92 9 = .ok (.iadd, 1) := by decide +kernel
theorem ge_92_10 : decode gc_c92 10 = .ok (.iaload, 1) := by decide +kernel
theorem ge_92_11 : decode gc_c92 11 = .ok (.ireturn, 1) := by decide +kernel
theorem ge_93_0 : decode gc_c93 0 = .ok (.iload_n 1, 1) := by decide +kernel
theorem ge_93_1 : decode gc_c93 1 = .ok (.iconst (-1), 1) := by decide +kernel
theorem ge_93_2 : decode gc_c93 2 = .ok (.if_icmp .eq (18), 3) := by decide +kernel
theorem ge_93_5 : decode gc_c93 5 = .ok (.aload_n 0, 1) := by decide +kernel
theorem ge_93_6 : decode gc_c93 6 = .ok (.getfield 39, 3) := by decide +kernel
theorem ge_93_9 : decode gc_c93 9 = .ok (.aload_n 0, 1) := by decide +kernel
theorem ge_93_10 : decode gc_c93 10 = .ok (.getfield 19, 3) := by decide +kernel
theorem ge_93_13 : decode gc_c93 13 = .ok (.bipush (40), 2) := by decide +kernel
theorem ge_93_15 : decode gc_c93 15 = .ok (.imul, 1) := by decide +kernel
theorem ge_93_16 : decode gc_c93 16 = .ok (.iload_n 1, 1) := by decide +kernel
theorem ge_93_17 : decode gc_c93 17 = .ok (.iadd, 1) := by decide +kernel
theorem ge_93_18 : decode gc_c93 18 = .ok (.iload_n 2, 1) := by decide +kernel
theorem ge_93_19 : decode gc_c93 19 = .ok (.iastore, 1) := by decide +kernel
theorem ge_93_20 : decode gc_c93 20 = .ok (.return_, 1) := by decide +kernel
theorem ge_94_0 : decode gc_c94 0 = .ok (.iload_n 1, 1) := by decide +kernel
theorem ge_94_1 : decode gc_c94 1 = .ok (.istore_n 3, 1) := by decide +kernel
theorem ge_94_2 : decode gc_c94 2 = .ok (.iconst (0), 1) := by decide +kernel
theorem ge_94_3 : decode gc_c94 3 = .ok (.istore 4, 2) := by decide +kernel
theorem ge_94_5 : decode gc_c94 5 = .ok (.iload 4, 2) := by decide +kernel
theorem ge_94_7 : decode gc_c94 7 = .ok (.aload_n 0, 1) := by decide +kernel
theorem ge_94_8 : decode gc_c94 8 = .ok (.getfield 19, 3) := by decide +kernel
theorem ge_94_11 : decode gc_c94 11 = .ok (.if_icmp .ge (56), 3) := by decide +kernel
theorem ge_94_14 : decode gc_c94 14 = .ok (.aload_n 2, 1) := by decide +kernel
theorem ge_94_15 : decode gc_c94 15 = .ok (.invokevirtual 22, 3) := by decide +kernel
theorem ge_94_18 : decode gc_c94 18 = .ok (.istore 5, 2) := by decide +kernel
theorem ge_94_20 : decode gc_c94 20 = .ok (.aload_n 0, 1) := by decide +kernel
theorem ge_94_21 : decode gc_c94 21 = .ok (.getfield 9, 3) := by decide +kernel
theorem ge_94_24 : decode gc_c94 24 = .ok (.iload_n 3, 1) := by decide +kernel
theorem ge_94_25 : decode gc_c94 25 = .ok (.aload_n 2, 1) := by decide +kernel
theorem ge_94_26 : decode gc_c94 26 = .ok (.invokevirtual 28, 3) := by decide +kernel
theorem ge_94_29 : decode gc_c94 29 = .ok (.istore 6, 2) := by decide +kernel
theorem ge_94_31 : decode gc_c94 31 = .ok (.iload 6, 2) := by decide +kernel
theorem ge_94_33 : decode gc_c94 33 = .ok (.iconst (-1), 1) := by decide +kernel
theorem ge_94_34 : decode gc_c94 34 = .ok (.if_icmp .ne (24), 3) := by decide +kernel
theorem ge_94_37 : decode gc_c94 37 = .ok (.aload_n 2, 1) := by decide +kernel
theorem ge_94_38 : decode gc_c94 38 = .ok (.iload 5, 2) := by decide +kernel
theorem ge_94_40 : decode gc_c94 40 = .ok (.invokevirtual 32, 3) := by decide +kernel
theorem ge_94_43 : decode gc_c94 43 = .ok (.iload 4, 2) := by decide +kernel
theorem ge_94_45 : decode gc_c94 45 = .ok (.aload_n 0, 1) := by decide +kernel
theorem ge_94_46 : decode gc_c94 46 = .ok (.getfield 15, 3) := by decide +kernel
theorem ge_94_49 : decode gc_c94 49 = .ok (.if_icmp .ge (7), 3) := by decide +kernel
theorem ge_94_52 : decode gc_c94 52 = .ok (.iconst (-1), 1) := by decide +kernel
theorem ge_94_53 : decode gc_c94 53 = .ok (.goto (4), 3) := by decide +kernel
theorem ge_94_56 : decode gc_c94 56 = .ok (.iload_n 3, 1) := by decide +kernel
theorem ge_94_57 : decode gc_c94 57 = .ok (.ireturn, 1) := by decide +kernel
theorem ge_94_58 : decode gc_c94 58 = .ok (.iload 6, 2) := by decide +kernel
theorem ge_94_60 : decode gc_c94 60 = .ok (.istore_n 3, 1) := by decide +kernel
theorem ge_94_61 : decode gc_c94 61 = .ok (.iinc 4 (1), 3) := by decide +kernel
theorem ge_94_64 : decode gc_c94 64 = .ok (.goto (-59), 3) := by decide +kernel
theorem ge_94_67 : decode gc_c94 67 = .ok (.iload_n 3, 1) := by decide +kernel
theorem ge_94_68 : decode gc_c94 68 = .ok (.ireturn, 1) := by decide +kernel
theorem ge_95_0 : decode gc_c95 0 = .ok (.iload_n 1, 1) := by decide +kernel
theorem ge_95_1 : decode gc_c95 1 = .ok (.istore_n 3, 1) := by decide +kernel
theorem ge_95_2 : decode gc_c95 2 = .ok (.iconst (0), 1) := by decide +kernel
theorem ge_95_3 : decode gc_c95 3 = .ok (.istore 4, 2) := by decide +kernel
theorem ge_95_5 : decode gc_c95 5 = .ok (.iload 4, 2) := by decide +kernel
theorem ge_95_7 : decode gc_c95 7 = .ok (.aload_n 0, 1) := by decide +kernel
theorem ge_95_8 : decode gc_c95 8 = .ok (.getfield 12, 3) := by decide +kernel
theorem ge_95_11 : decode gc_c95 11 = .ok (.invokeinterface 24 1, 5) := by decide +kernel
theorem ge_95_16 : decode gc_c95 16 = .ok (.if_icmp .ge (34), 3) := by decide +kernel
theorem ge_95_19 : decode gc_c95 19 = .ok (.iload_n 3, 1) := by decide +kernel
theorem ge_95_20 : decode gc_c95 20 = .ok (.iconst (-1), 1) := by decide +kernel
theorem ge_95_21 : decode gc_c95 21 = .ok (.if_icmp .eq (29), 3) := by decide +kernel
theorem ge_95_24 : decode gc_c95 24 = .ok (.aload_n 0, 1) := by decide +kernel
theorem ge_95_25 : decode gc_c95 25 = .ok (.getfield 12, 3) := by decide +kernel
theorem ge_95_28 : decode gc_c95 28 = .ok (.iload 4, 2) := by decide +kernel
theorem ge_95_30 : decode gc_c95 30 = .ok (.invokeinterface 28 2, 5) := by decide +kernel
theorem ge_95_35 : decode gc_c95 35 = .ok (.checkcast 4, 3) := by decide +kernel
theorem ge_95_38 : decode gc_c95 38 = .ok (.iload_n 3, 1) := by decide +kernel
theorem ge_95_39 : decode gc_c95 39 = .ok (.aload_n 2, 1) := by decide +kernel
theorem ge_95_40 : decode gc_c95 40 = .ok (.invokevirtual 32, 3) := by decide +kernel
theorem ge_95_43 : decode gc_c95 43 = .ok (.istore_n 3, 1) := by decide +kernel
theorem ge_95_44 : decode gc_c95 44 = .ok (.iinc 4 (1), 3) := by decide +kernel
theorem ge_95_47 : decode gc_c95 47 = .ok (.goto (-42), 3) := by decide +kernel
theorem ge_95_50 : decode gc_c95 50 = .ok (.iload_n 3, 1) := by decide +kernel
theorem ge_95_51 : decode gc_c95 51 = .ok (.ireturn, 1) := by decide +kernel
theorem ge_96_0 : decode gc_c96 0 = .ok (.aload_n 2, 1) := by decide +kernel
theorem ge_96_1 : decode gc_c96 1 = .ok (.iload_n 1, 1) := by decide +kernel
theorem ge_96_2 : decode gc_c96 2 = .ok (.aload_n 0, 1) := by decide +kernel
theorem ge_96_3 : decode gc_c96 3 = .ok (.getfield 7, 3) := by decide +kernel
theorem ge_96_6 : decode gc_c96 6 = .ok (.aload_n 0, 1) := by decide +kernel
theorem ge_96_7 : decode gc_c96 7 = .ok (.getfield 13, 3) := by decide +kernel
theorem ge_96_10 : decode gc_c96 10 = .ok (.invokevirtual 16, 3) := by decide +kernel
theorem ge_96_13 : decode gc_c96 13 = .ok (.ireturn, 1) := by decide +kernel
theorem ge_97_0 : decode gc_c97 0 = .ok (.iload_n 1, 1) := by decide +kernel
theorem ge_97_1 : decode gc_c97 1 = .ok (.aload_n 0, 1) := by decide +kernel
theorem ge_97_2 : decode gc_c97 2 = .ok (.getfield 15, 3) := by decide +kernel
theorem ge_97_5 : decode gc_c97 5 = .ok (.if_icmp .ge (27), 3) := by decide +kernel
theorem ge_97_8 : decode gc_c97 8 = .ok (.aload_n 0, 1) := by decide +kernel
theorem ge_97_9 : decode gc_c97 9 = .ok (.getfield 9, 3) := by decide +kernel
theorem ge_97_12 : decode gc_c97 12 = .ok (.iload_n 1, 1) := by decide +kernel
theorem ge_97_13 : decode gc_c97 13 = .ok (.caload, 1) := by decide +kernel
theorem ge_97_14 : decode gc_c97 14 = .ok (.iload_n 2, 1) := by decide +kernel
theorem ge_97_15 : decode gc_c97 15 = .ok (.if_icmp .lt (17), 3) := by decide +kernel
theorem ge_97_18 : decode gc_c97 18 = .ok (.aload_n 0, 1) := by decide +kernel
theorem ge_97_19 : decode gc_c97 19 = .ok (.getfield 9, 3) := by decide +kernel
theorem ge_97_22 : decode gc_c97 22 = .ok (.iload_n 1, 1) := by decide +kernel
theorem ge_97_23 : decode gc_c97 23 = .ok (.caload, 1) := by decide +kernel
theorem ge_97_24 : decode gc_c97 24 = .ok (.iload_n 3, 1) := by decide +kernel
theorem ge_97_25 : decode gc_c97 25 = .ok (.if_icmp .gt (7), 3) := by decide +kernel
theorem ge_97_28 : decode gc_c97 28 = .ok (.iload_n 1, 1) := by decide +kernel
theorem ge_97_29 : decode gc_c97 29 = .ok (.iconst (1), 1) := by decide +kernel
theorem ge_97_30 : decode gc_c97 30 = .ok (.iadd, 1) := by decide +kernel
theorem ge_97_31 : decode gc_c97 31 = .ok (.ireturn, 1) := by decide +kernel
theorem ge_97_32 : decode gc_c97 32 = .ok (.aload_n 0, 1) := by decide +kernel
theorem ge_97_33 : decode gc_c97 33 = .ok (.getfield 26, 3) := by decide +kernel
theorem ge_97_36 : decode gc_c97 36 = .ok (.aload_n 0, 1) := by decide +kernel
theorem ge_97_37 : decode gc_c97 37 = .ok (.getfield 19, 3) := by decide +kernel
theorem ge_97_40 : decode gc_c97 40 = .ok (.aload_n 0, 1) := by decide +kernel
theorem ge_97_41 : decode gc_c97 41 = .ok (.getfield 26, 3) := by decide +kernel
theorem ge_97_44 : decode gc_c97 44 = .ok (.aload_n 0, 1) := by decide +kernel
theorem ge_97_45 : decode gc_c97 45 = .ok (.getfield 19, 3) := by decide +kernel
theorem ge_97_48 : decode gc_c97 48 = .ok (.iaload, 1) := by decide +kernel
theorem ge_97_49 : decode gc_c97 49 = .ok (.iload_n 1, 1) := by decide +kernel
theorem ge_97_50 : decode gc_c97 50 = .ok (.invokestatic 80, 3) := by decide +kernel
theorem ge_97_53 : decode gc_c97 53 = .ok (.iastore, 1) := by decide +kernel
theorem ge_97_54 : decode gc_c97 54 = .ok (.iconst (-1), 1) := by decide +kernel
theorem ge_97_55 : decode gc_c97 55 = .ok (.ireturn, 1) := by decide +kernel
theorem ge_98_0 : decode gc_c98 0 = .ok (.aload_n 0, 1) := by decide +kernel
theorem ge_98_1 : decode gc_c98 1 = .ok (.getfield 33, 3) := by decide +kernel
theorem ge_98_4 : decode gc_c98 4 = .ok (.aload_n 0, 1) := by decide +kernel
theorem ge_98_5 : decode gc_c98 5 = .ok (.getfield 19, 3) := by decide +kernel
theorem ge_98_8 : decode gc_c98 8 = .ok (.iload_n 1, 1) := by decide +kernel
theorem ge_98_9 : decode gc_c98 9 = .ok (.iastore, 1) := by decide +kernel
theorem ge_98_10 : decode gc_c98 10 = .ok (.return_, 1) := by decide +kernel
theorem ge_99_0 : decode gc_c99 0 = .ok (.aload_n 0, 1) := by decide +kernel
theorem ge_99_1 : decode gc_c99 1 = .ok (.getfield 22, 3) := by decide +kernel
theorem ge_99_4 : decode gc_c99 4 = .ok (.iload_n 1, 1) := by decide +kernel
theorem ge_99_5 : decode gc_c99 5 = .ok (.iaload, 1) := by decide +kernel
theorem ge_99_6 : decode gc_c99 6 = .ok (.ireturn, 1) := by decide +kernel
theorem ge_100_0 : decode gc_c100 0 = .ok (.iload_n 1, 1) := by decide +kernel
theorem ge_100_1 : decode gc_c100 1 = .ok (.invokestatic 59, 3) := by decide +kernel
theorem ge_100_4 : decode gc_c100 4 = .ok (.aload_n 0, 1) := by decide +kernel
theorem ge_100_5 : decode gc_c100 5 = .ok (.iload_n 1, 1) := by decide +kernel
theorem ge_100_6 : decode gc_c100 6 = .ok (.invokevirtual 81, 3) := by decide +kernel
theorem ge_100_9 : decode gc_c100 9 = .ok (.aload_n 0, 1) := by decide +kernel
theorem ge_100_10 : decode gc_c100 10 = .ok (.getfield 33, 3) := by decide +kernel
theorem ge_100_13 : decode gc_c100 13 = .ok (.aload_n 0, 1) := by decide +kernel
theorem ge_100_14 : decode gc_c100 14 = .ok (.getfield 26, 3) := by decide +kernel
theorem ge_100_17 : decode gc_c100 17 = .ok (.aload_n 0, 1) := by decide +kernel
theorem ge_100_18 : decode gc_c100 18 = .ok (.getfield 13, 3) := by decide +kernel
theorem ge_100_21 : decode gc_c100 21 = .ok (.aload_n 0, 1) := by decide +kernel
theorem ge_100_22 : decode gc_c100 22 = .ok (.getfield 41, 3) := by decide +kernel
theorem ge_100_25 : decode gc_c100 25 = .ok (.iconst (0), 1) := by decide +kernel
theorem ge_100_26 : decode gc_c100 26 = .ok (.invokevirtual 84, 3) := by decide +kernel
theorem ge_100_29 : decode gc_c100 29 = .ok (.iconst (0), 1) := by decide +kernel
theorem ge_100_30 : decode gc_c100 30 = .ok (.istore_n 2, 1) := by decide +kernel
theorem ge_100_31 : decode gc_c100 31 = .ok (.iload_n 2, 1) := by decide +kernel
theorem ge_100_32 : decode gc_c100 32 = .ok (.aload_n 0, 1) := by decide +kernel
theorem ge_100_33 : decode gc_c100 33 = .ok (.getfield 41, 3) := by decide +kernel
theorem ge_100_36 : decode gc_c100 36 = .ok (.if_icmp .gt (35), 3) := by decide +kernel
theorem ge_100_39 : decode gc_c100 39 = .ok (.aload_n 0, 1) := by decide +kernel
theorem ge_100_40 : decode gc_c100 40 = .ok (.iload_n 1, 1) := by decide +kernel
theorem ge_100_41 : decode gc_c100 41 = .ok (.iload_n 2, 1) := by decide +kernel
theorem ge_100_42 : decode gc_c100 42 = .ok (.invokestatic 88, 3) := by decide +kernel
theorem ge_100_45 : decode gc_c100 45 = .ok (.putfield 44, 3) := by decide +kernel
theorem ge_100_48 : decode gc_c100 48 = .ok (.aload_n 0, 1) := by decide +kernel
theorem ge_100_49 : decode gc_c100 49 = .ok (.getfield 33, 3) := by decide +kernel
theorem ge_100_52 : decode gc_c100 52 = .ok (.aload_n 0, 1) := by decide +kernel
theorem ge_100_53 : decode gc_c100 53 = .ok (.getfield 44, 3) := by decide +kernel
theorem ge_100_56 : decode gc_c100 56 = .ok (.invokevirtual 92, 3) := by decide +kernel
theorem ge_100_59 : decode gc_c100 59 = .ok (.iconst (-1), 1) := by decide +kernel
theorem ge_100_60 : decode gc_c100 60 = .ok (.if_icmp .eq (5), 3) := by decide +kernel
theorem ge_100_63 : decode gc_c100 63 = .ok (.iload_n 2, 1) := by decide +kernel
theorem ge_100_64 : decode gc_c100 64 = .ok (.ireturn, 1) := by decide +kernel
theorem ge_100_65 : decode gc_c100 65 = .ok (.iinc 2 (1), 3) := by decide +kernel
theorem ge_100_68 : decode gc_c100 68 = .ok (.goto (-37), 3) := by decide +kernel
theorem ge_100_71 : decode gc_c100 71 = .ok (.iconst (-1), 1) := by decide +kernel
theorem ge_100_72 : decode gc_c100 72 = .ok (.ireturn, 1) := by decide +kernel
theorem ge_101_0 : decode gc_c101 0 = .ok (.iload_n 1, 1) := by decide +kernel
theorem ge_101_1 : decode gc_c101 1 = .ok (.ifCond .lt (20), 3) := by decide +kernel
theorem ge_101_4 : decode gc_c101 4 = .ok (.iload_n 1, 1) := by decide +kernel
theorem ge_101_5 : decode gc_c101 5 = .ok (.aload_n 0, 1) := by decide +kernel
theorem ge_101_6 : decode gc_c101 6 = .ok (.invokevirtual 98, 3) := by decide +kernel
theorem ge_101_9 : decode gc_c101 9 = .ok (.if_icmp .ge (12), 3) := by decide +kernel
theorem ge_101_12 : decode gc_c101 12 = .ok (.iload_n 2, 1) := by decide +kernel
theorem ge_101_13 : decode gc_c101 13 = .ok (.ifCond .lt (8), 3) := by decide +kernel
theorem ge_101_16 : decode gc_c101 16 = .ok (.iload_n 2, 1) := by decide +kernel
theorem ge_101_17 : decode gc_c101 17 = .ok (.iconst (1), 1) := by decide +kernel
theorem ge_101_18 : decode gc_c101 18 = .ok (.if_icmp .le (11), 3) := by decide +kernel
theorem ge_101_21 : decode gc_c101 21 = .ok (.new 78, 3) := by decide +kernel
theorem ge_101_24 : decode gc_c101 24 = .ok (.dup, 1) := by decide +kernel
theorem ge_101_25 : decode gc_c101 25 = .ok (.invokespecial 80, 3) := by decide +kernel
theorem ge_101_28 : decode gc_c101 28 = .ok (.athrow, 1) := by decide +kernel
theorem ge_101_29 : decode gc_c101 29 = .ok (.iload_n 2, 1) := by decide +kernel
theorem ge_101_30 : decode gc_c101 30 = .ok (.ifCond .ne (18), 3) := by decide +kernel
theorem ge_101_33 : decode gc_c101 33 = .ok (.aload_n 0, 1) := by decide +kernel
theorem ge_101_34 : decode gc_c101 34 = .ok (.getfield 33, 3) := by decide +kernel
theorem ge_101_37 : decode gc_c101 37 = .ok (.aload_n 0, 1) := by decide +kernel
theorem ge_101_38 : decode gc_c101 38 = .ok (.getfield 44, 3) := by decide +kernel
theorem ge_101_41 : decode gc_c101 41 = .ok (.iload_n 1, 1) := by decide +kernel
theorem ge_101_42 : decode gc_c101 42 = .ok (.invokevirtual 102, 3) := by decide +kernel
theorem ge_101_45 : decode gc_c101 45 = .ok (.goto (15), 3) := by decide +kernel
theorem ge_101_48 : decode gc_c101 48 = .ok (.aload_n 0, 1) := by decide +kernel
theorem ge_101_49 : decode gc_c101 49 = .ok (.getfield 33, 3) := by decide +kernel
theorem ge_101_52 : decode gc_c101 52 = .ok (.aload_n 0, 1) := by decide +kernel
theorem ge_101_53 : decode gc_c101 53 = .ok (.getfield 44, 3) := by decide +kernel
theorem ge_101_56 : decode gc_c101 56 = .ok (.iload_n 1, 1) := by decide +kernel
theorem ge_101_57 : decode gc_c101 57 = .ok (.invokevirtual 105, 3) := by decide +kernel
theorem ge_101_60 : decode gc_c101 60 = .ok (.ireturn, 1) := by decide +kernel
theorem ge_102_0 : decode gc_c102 0 = .ok (.aload_n 0, 1) := by decide +kernel
theorem ge_102_1 : decode gc_c102 1 = .ok (.invokespecial 1, 3) := by decide +kernel
theorem ge_102_4 : decode gc_c102 4 = .ok (.return_, 1) := by decide +kernel
theorem ge_103_0 : decode gc_c103 0 = .ok (.aload_n 0, 1) := by decide +kernel
theorem ge_103_1 : decode gc_c103 1 = .ok (.invokespecial 1, 3) := by decide +kernel
theorem ge_103_4 : decode gc_c103 4 = .ok (.aload_n 0, 1) := by decide +kernel
theorem ge_103_5 : decode gc_c103 5 = .ok (.iconst (0), 1) := by decide +kernel
theorem ge_103_6 : decode gc_c103 6 = .ok (.putfield 7, 3) := by decide +kernel
theorem ge_103_9 : decode gc_c103 9 = .ok (.return_, 1) := by decide +kernel
theorem ge_104_0 : decode gc_c104 0 = .ok (.aload_n 0, 1) := by decide +kernel
theorem ge_104_1 : decode gc_c104 1 = .ok (.invokespecial 1, 3) := by decide +kernel
theorem ge_104_4 : decode gc_c104 4 = .ok (.aload_n 0, 1) := by decide +kernel
theorem ge_104_5 : decode gc_c104 5 = .ok (.getstatic 39, 3) := by decide +kernel
theorem ge_104_8 : decode gc_c104 8 = .ok (.putfield 9, 3) := by decide +kernel
theorem ge_104_11 : decode gc_c104 11 = .ok (.return_, 1) := by decide +kernel
theorem ge_105_0 : decode gc_c105 0 = .ok (.aload_n 0, 1) := by decide +kernel
theorem ge_105_1 : decode gc_c105 1 = .ok (.dup, 1) := by decide +kernel
theorem ge_105_2 : decode gc_c105 2 = .ok (.getfield 63, 3) := by decide +kernel
theorem ge_105_5 : decode gc_c105 5 = .ok (.iconst (1), 1) := by decide +kernel
theorem ge_105_6 : decode gc_c105 6 = .ok (.iadd, 1) := by decide +kernel
theorem ge_105_7 : decode gc_c105 7 = .ok (.putfield 63, 3) := by decide +kernel
theorem ge_105_10 : decode gc_c105 10 = .ok (.aload_n 0, 1) := by decide +kernel
theorem ge_105_11 : decode gc_c105 11 = .ok (.aload_n 1, 1) := by decide +kernel
theorem ge_105_12 : decode gc_c105 12 = .ok (.aload_n 0, 1) := by decide +kernel
theorem ge_105_13 : decode gc_c105 13 = .ok (.getfield 9, 3) := by decide +kernel
theorem ge_105_16 : decode gc_c105 16 = .ok (.aload_n 0, 1) := by decide +kernel
theorem ge_105_17 : decode gc_c105 17 = .ok (.getfield 48, 3) := by decide +kernel
theorem ge_105_20 : decode gc_c105 20 = .ok (.invokevirtual 131, 3) := by decide +kernel
theorem ge_105_23 : decode gc_c105 23 = .ok (.iconst (1), 1) := by decide +kernel
theorem ge_105_24 : decode gc_c105 24 = .ok (.ireturn, 1) := by decide +kernel
theorem ge_106_0 : decode gc_c106 0 = .ok (.iload_n 3, 1) := by decide +kernel
theorem ge_106_1 : decode gc_c106 1 = .ok (.aload_n 2, 1) := by decide +kernel
theorem ge_106_2 : decode gc_c106 2 = .ok (.arraylength, 1) := by decide +kernel
theorem ge_106_3 : decode gc_c106 3 = .ok (.if_icmp .ne (8), 3) := by decide +kernel
theorem ge_106_6 : decode gc_c106 6 = .ok (.aload_n 0, 1) := by decide +kernel
theorem ge_106_7 : decode gc_c106 7 = .ok (.invokevirtual 129, 3) := by decide +kernel
theorem ge_106_10 : decode gc_c106 10 = .ok (.astore_n 2, 1) := by decide +kernel
theorem ge_106_11 : decode gc_c106 11 = .ok (.aload_n 2, 1) := by decide +kernel
theorem ge_106_12 : decode gc_c106 12 = .ok (.iload_n 3, 1) := by decide +kernel
theorem ge_106_13 : decode gc_c106 13 = .ok (.aload_n 1, 1) := by decide +kernel
theorem ge_106_14 : decode gc_c106 14 = .ok (.aastore, 1) := by decide +kernel
theorem ge_106_15 : decode gc_c106 15 = .ok (.aload_n 0, 1) := by decide +kernel
theorem ge_106_16 : decode gc_c106 16 = .ok (.iload_n 3, 1) := by decide +kernel
theorem ge_106_17 : decode gc_c106 17 = .ok (.iconst (1), 1) := by decide +kernel
theorem ge_106_18 : decode gc_c106 18 = .ok (.iadd, 1) := by decide +kernel
theorem ge_106_19 : decode gc_c106 19 = .ok (.putfield 48, 3) := by decide +kernel
theorem ge_106_22 : decode gc_c106 22 = .ok (.return_, 1) := by decide +kernel
theorem ge_107_0 : decode gc_c107 0 = .ok (.aload_n 0, 1) := by decide +kernel
theorem ge_107_1 : decode gc_c107 1 = .ok (.aload_n 0, 1) := by decide +kernel
theorem ge_107_2 : decode gc_c107 2 = .ok (.getfield 48, 3) := by decide +kernel
theorem ge_107_5 : decode gc_c107 5 = .ok (.iconst (1), 1) := by decide +kernel
theorem ge_107_6 : decode gc_c107 6 = .ok (.iadd, 1) := by decide +kernel
theorem ge_107_7 : decode gc_c107 7 = .ok (.invokevirtual 69, 3) := by decide +kernel
theorem ge_107_10 : decode gc_c107 10 = .ok (.areturn, 1) := by decide +kernel
theorem ge_108_0 : decode gc_c108 0 = .ok (.aload_n 0, 1) := by decide +kernel
theorem ge_108_1 : decode gc_c108 1 = .ok (.getfield 9, 3) := by decide +kernel
theorem ge_108_4 : decode gc_c108 4 = .ok (.arraylength, 1) := by decide +kernel
theorem ge_108_5 : decode gc_c108 5 = .ok (.istore_n 2, 1) := by decide +kernel
theorem ge_108_6 : decode gc_c108 6 = .ok (.iload_n 2, 1) := by decide +kernel
theorem ge_108_7 : decode gc_c108 7 = .ok (.ifCond .gt (13), 3) := by decide +kernel
theorem ge_108_10 : decode gc_c108 10 = .ok (.aload_n 0, 1) := by decide +kernel
theorem ge_108_11 : decode gc_c108 11 = .ok (.getfield 9, 3) := by decide +kernel
theorem ge_108_14 : decode gc_c108 14 = .ok (.getstatic 39, 3) := by decide +kernel
theorem ge_108_17 : decode gc_c108 17 = .ok (.if_acmp .eq (28), 3) := by decide +kernel
theorem ge_108_20 : decode gc_c108 20 = .ok (.iload_n 2, 1) := by decide +kernel
theorem ge_108_21 : decode gc_c108 21 = .ok (.iload_n 1, 1) := by decide +kernel
theorem ge_108_22 : decode gc_c108 22 = .ok (.iload_n 2, 1) := by decide +kernel
theorem ge_108_23 : decode gc_c108 23 = .ok (.isub, 1) := by decide +kernel
theorem ge_108_24 : decode gc_c108 24 = .ok (.iload_n 2, 1) := by decide +kernel
theorem ge_108_25 : decode gc_c108 25 = .ok (.iconst (1), 1) := by decide +kernel
theorem ge_108_26 : decode gc_c108 26 = .ok (.ishr, 1) := by decide +kernel
theorem ge_108_27 : decode gc_c108 27 = .ok (.invokestatic 73, 3) := by decide +kernel
theorem ge_108_30 : decode gc_c108 30 = .ok (.istore_n 3, 1) := by decide +kernel
theorem ge_108_31 : decode gc_c108 31 = .ok (.aload_n 0, 1) := by decide +kernel
theorem ge_108_32 : decode gc_c108 32 = .ok (.aload_n 0, 1) := by decide +kernel
theorem ge_108_33 : decode gc_c108 33 = .ok (.getfield 9, 3) := by decide +kernel
theorem ge_108_36 : decode gc_c108 36 = .ok (.iload_n 3, 1) := by decide +kernel
theorem ge_108_37 : decode gc_c108 37 = .ok (.invokestatic 66, 3) := by decide +kernel
theorem ge_108_40 : decode gc_c108 40 = .ok (.dup_x1, 1) := by decide +kernel
theorem ge_108_41 : decode gc_c108 41 = .ok (.putfield 9, 3) := by decide +kernel
theorem ge_108_44 : decode gc_c108 44 = .ok (.areturn, 1) := by decide +kernel
theorem ge_108_45 : decode gc_c108 45 = .ok (.aload_n 0, 1) := by decide +kernel
theorem ge_108_46 : decode gc_c108 46 = .ok (.bipush (10), 2) := by decide +kernel
theorem ge_108_48 : decode gc_c108 48 = .ok (.iload_n 1, 1) := by decide +kernel
theorem ge_108_49 : decode gc_c108 49 = .ok (.invokestatic 79, 3) := by decide +kernel
theorem ge_108_52 : decode gc_c108 52 = .ok (.anewarray 7, 3) := by decide +kernel
theorem ge_108_55 : decode gc_c108 55 = .ok (.dup_x1, 1) := by decide +kernel
theorem ge_108_56 : decode gc_c108 56 = .ok (.putfield 9, 3) := by decide +kernel
theorem ge_108_59 : decode gc_c108 59 = .ok (.areturn, 1) := by decide +kernel
theorem ge_109_0 : decode gc_c109 0 = .ok (.aload_n 0, 1) := by decide +kernel
theorem ge_109_1 : decode gc_c109 1 = .ok (.getfield 48, 3) := by decide +kernel
theorem ge_109_4 : decode gc_c109 4 = .ok (.ireturn, 1) := by decide +kernel
theorem ge_110_0 : decode gc_c110 0 = .ok (.iload_n 1, 1) := by decide +kernel
theorem ge_110_1 : decode gc_c110 1 = .ok (.aload_n 0, 1) := by decide +kernel
theorem ge_110_2 : decode gc_c110 2 = .ok (.getfield 48, 3) := by decide +kernel
theorem ge_110_5 : decode gc_c110 5 = .ok (.invokestatic 118, 3) := by decide +kernel
theorem ge_110_8 : decode gc_c110 8 = .ok (.pop, 1) := by decide +kernel
theorem ge_110_9 : decode gc_c110 9 = .ok (.aload_n 0, 1) := by decide +kernel
theorem ge_110_10 : decode gc_c110 10 = .ok (.iload_n 1, 1) := by decide +kernel
theorem ge_110_11 : decode gc_c110 11 = .ok (.invokevirtual 123, 3) := by decide +kernel
theorem ge_110_14 : decode gc_c110 14 = .ok (.areturn, 1) := by decide +kernel
theorem ge_111_0 : decode gc_c111 0 = .ok (.aload_n 0, 1) := by decide +kernel
theorem ge_111_1 : decode gc_c111 1 = .ok (.getfield 9, 3) := by decide +kernel
theorem ge_111_4 : decode gc_c111 4 = .ok (.iload_n 1, 1) := by decide +kernel
theorem ge_111_5 : decode gc_c111 5 = .ok (.aaload, 1) := by decide +kernel
theorem ge_111_6 : decode gc_c111 6 = .ok (.areturn, 1) := by decide +kernel
theorem ge_112_0 : decode gc_c112 0 = .ok (.iload_n 0, 1) := by decide +kernel
theorem ge_112_1 : decode gc_c112 1 = .ok (.iload_n 1, 1) := by decide +kernel
theorem ge_112_2 : decode gc_c112 2 = .ok (.iload_n 2, 1) := by decide +kernel
theorem ge_112_3 : decode gc_c112 3 = .ok (.invokestatic 194, 3) := by decide +kernel
theorem ge_112_6 : decode gc_c112 6 = .ok (.iadd, 1) := by decide +kernel
theorem ge_112_7 : decode gc_c112 7 = .ok (.istore_n 3, 1) := by decide +kernel
theorem ge_112_8 : decode gc_c112 8 = .ok (.iconst (0), 1) := by decide +kernel
theorem ge_112_9 : decode gc_c112 9 = .ok (.iload_n 3, 1) := by decide +kernel
theorem ge_112_10 : decode gc_c112 10 = .ok (.if_icmp .ge (11), 3) := by decide +kernel
theorem ge_112_13 : decode gc_c112 13 = .ok (.iload_n 3, 1) := by decide +kernel
theorem ge_112_14 : decode gc_c112 14 = .ok (.ldc 200, 2) := by decide +kernel
theorem ge_112_16 : decode gc_c112 16 = .ok (.if_icmp .gt (5), 3) := by decide +kernel
theorem ge_112_19 : decode gc_c112 19 = .ok (.iload_n 3, 1) := by decide +kernel
theorem ge_112_20 : decode gc_c112 20 = .ok (.ireturn, 1) := by decide +kernel
theorem ge_112_21 : decode gc_c112 21 = .ok (.iload_n 0, 1) := by decide +kernel
theorem ge_112_22 : decode gc_c112 22 = .ok (.iload_n 1, 1) := by decide +kernel
theorem ge_112_23 : decode gc_c112 23 = .ok (.invokestatic 201, 3) := by decide +kernel
theorem ge_112_26 : decode gc_c112 26 = .ok (.ireturn, 1) := by decide +kernel
theorem ge_113_0 : decode gc_c113 0 = .ok (.aload_n 0, 1) := by decide +kernel
theorem ge_113_1 : decode gc_c113 1 = .ok (.iload_n 1, 1) := by decide +kernel
theorem ge_113_2 : decode gc_c113 2 = .ok (.aload_n 0, 1) := by decide +kernel
theorem ge_113_3 : decode gc_c113 3 = .ok (.invokevirtual 86, 3) := by decide +kernel
theorem ge_113_6 : decode gc_c113 6 = .ok (.invokestatic 300, 3) := by decide +kernel
theorem ge_113_9 : decode gc_c113 9 = .ok (.areturn, 1) := by decide +kernel
theorem ge_114_0 : decode gc_c114 0 = .ok (.aload_n 2, 1) := by decide +kernel
theorem ge_114_1 : decode gc_c114 1 = .ok (.ldc 110, 2) := by decide +kernel
theorem ge_114_3 : decode gc_c114 3 = .ok (.if_acmp .ne (10), 3) := by decide +kernel
theorem ge_114_6 : decode gc_c114 6 = .ok (.iload_n 1, 1) := by decide +kernel
theorem ge_114_7 : decode gc_c114 7 = .ok (.anewarray 2, 3) := by decide +kernel
theorem ge_114_10 : decode gc_c114 10 = .ok (.goto (14), 3) := by decide +kernel
theorem ge_114_13 : decode gc_c114 13 = .ok (.aload_n 2, 1) := by decide +kernel
theorem ge_114_14 : decode gc_c114 14 = .ok (.invokevirtual 90, 3) := by decide +kernel
theorem ge_114_17 : decode gc_c114 17 = .ok (.iload_n 1, 1) := by decide +kernel
theorem ge_114_18 : decode gc_c114 18 = .ok (.invokestatic 95, 3) := by decide +kernel
theorem ge_114_21 : decode gc_c114 21 = .ok (.checkcast 110, 3) := by decide +kernel
theorem ge_114_24 : decode gc_c114 24 = .ok (.astore_n 3, 1) := by decide +kernel
theorem ge_114_25 : decode gc_c114 25 = .ok (.aload_n 0, 1) := by decide +kernel
theorem ge_114_26 : decode gc_c114 26 = .ok (.iconst (0), 1) := by decide +kernel
theorem ge_114_27 : decode gc_c114 27 = .ok (.aload_n 3, 1) := by decide +kernel
theorem ge_114_28 : decode gc_c114 28 = .ok (.iconst (0), 1) := by decide +kernel
theorem ge_114_29 : decode gc_c114 29 = .ok (.aload_n 0, 1) := by decide +kernel
theorem ge_114_30 : decode gc_c114 30 = .ok (.arraylength, 1) := by decide +kernel
theorem ge_114_31 : decode gc_c114 31 = .ok (.iload_n 1, 1) := by decide +kernel
theorem ge_114_32 : decode gc_c114 32 = .ok (.invokestatic 304, 3) := by decide +kernel
theorem ge_114_35 : decode gc_c114 35 = .ok (.invokestatic 150, 3) := by decide +kernel
theorem ge_114_38 : decode gc_c114 38 = .ok (.aload_n 3, 1) := by decide +kernel
theorem ge_114_39 : decode gc_c114 39 = .ok (.areturn, 1) := by decide +kernel
theorem ge_115_0 : decode gc_c115 0 = .ok (.iload_n 0, 1) := by decide +kernel
theorem ge_115_1 : decode gc_c115 1 = .ok (.iload_n 1, 1) := by decide +kernel
theorem ge_115_2 : decode gc_c115 2 = .ok (.aconst_null, 1) := by decide +kernel
theorem ge_115_3 : decode gc_c115 3 = .ok (.invokestatic 105, 3) := by decide +kernel
theorem ge_115_6 : decode gc_c115 6 = .ok (.ireturn, 1) := by decide +kernel
theorem ge_116_0 : decode gc_c116 0 = .ok (.iload_n 0, 1) := by decide +kernel
theorem ge_116_1 : decode gc_c116 1 = .ok (.ifCond .lt (8), 3) := by decide +kernel
theorem ge_116_4 : decode gc_c116 4 = .ok (.iload_n 0, 1) := by decide +kernel
theorem ge_116_5 : decode gc_c116 5 = .ok (.iload_n 1, 1) := by decide +kernel
theorem ge_116_6 : decode gc_c116 6 = .ok (.if_icmp .lt (10), 3) := by decide +kernel
theorem ge_116_9 : decode gc_c116 9 = .ok (.aload_n 2, 1) := by decide +kernel
theorem ge_116_10 : decode gc_c116 10 = .ok (.iload_n 0, 1) := by decide +kernel
theorem ge_116_11 : decode gc_c116 11 = .ok (.iload_n 1, 1) := by decide +kernel
theorem ge_116_12 : decode gc_c116 12 = .ok (.invokestatic 95, 3) := by decide +kernel
theorem ge_116_15 : decode gc_c116 15 = .ok (.athrow, 1) := by decide +kernel
theorem ge_116_16 : decode gc_c116 16 = .ok (.iload_n 0, 1) := by decide +kernel
theorem ge_116_17 : decode gc_c116 17 = .ok (.ireturn, 1) := by decide +kernel
