theorem f18_0 : gFetch 18 0 = some (.aload_n 0, 1, 0, 0) := rfl
theorem f18_1 : gFetch 18 1 = some (.invokespecial 1, 3, 900, 1) := rfl
theorem f18_4 : gFetch 18 4 = some (.aload_n 0, 1, 0, 0) := rfl
theorem f18_5 : gFetch 18 5 = some (.new 7, 3, 0, 0) := rfl
theorem f18_8 : gFetch 18 8 = some (.dup, 1, 0, 0) := rfl
theorem f18_9 : gFetch 18 9 = some (.invokespecial 9, 3, 160, 1) := rfl
theorem f18_12 : gFetch 18 12 = some (.putfield 10, 3, 11, 0) := rfl
theorem f18_15 : gFetch 18 15 = some (.aload_n 0, 1, 0, 0) := rfl
theorem f18_16 : gFetch 18 16 = some (.new 7, 3, 0, 0) := rfl
theorem f18_19 : gFetch 18 19 = some (.dup, 1, 0, 0) := rfl
theorem f18_20 : gFetch 18 20 = some (.invokespecial 9, 3, 160, 1) := rfl
theorem f18_23 : gFetch 18 23 = some (.putfield 16, 3, 11, 1) := rfl
theorem f18_26 : gFetch 18 26 = some (.aload_n 0, 1, 0, 0) := rfl
theorem f18_27 : gFetch 18 27 = some (.new 7, 3, 0, 0) := rfl
theorem f18_30 : gFetch 18 30 = some (.dup, 1, 0, 0) := rfl
theorem f18_31 : gFetch 18 31 = some (.invokespecial 9, 3, 160, 1) := rfl
theorem f18_34 : gFetch 18 34 = some (.putfield 19, 3, 11, 2) := rfl
theorem f18_37 : gFetch 18 37 = some (.aload_n 0, 1, 0, 0) := rfl
theorem f18_38 : gFetch 18 38 = some (.new 7, 3, 0, 0) := rfl
theorem f18_41 : gFetch 18 41 = some (.dup, 1, 0, 0) := rfl
theorem f18_42 : gFetch 18 42 = some (.invokespecial 9, 3, 160, 1) := rfl
theorem f18_45 : gFetch 18 45 = some (.putfield 22, 3, 11, 3) := rfl
theorem f18_48 : gFetch 18 48 = some (.aload_n 0, 1, 0, 0) := rfl
theorem f18_49 : gFetch 18 49 = some (.new 7, 3, 0, 0) := rfl
theorem f18_52 : gFetch 18 52 = some (.dup, 1, 0, 0) := rfl
theorem f18_53 : gFetch 18 53 = some (.invokespecial 9, 3, 160, 1) := rfl
theorem f18_56 : gFetch 18 56 = some (.putfield 25, 3, 11, 4) := rfl
theorem f18_59 : gFetch 18 59 = some (.aload_n 0, 1, 0, 0) := rfl
theorem f18_60 : gFetch 18 60 = some (.new 28, 3, 5, 0) := rfl
theorem f18_63 : gFetch 18 63 = some (.dup, 1, 0, 0) := rfl
theorem f18_64 : gFetch 18 64 = some (.invokespecial 30, 3, 112, 1) := rfl
theorem f18_67 : gFetch 18 67 = some (.putfield 31, 3, 11, 5) := rfl
theorem f18_70 : gFetch 18 70 = some (.aload_n 0, 1, 0, 0) := rfl
theorem f18_71 : gFetch 18 71 = some (.new 7, 3, 0, 0) := rfl
theorem f18_74 : gFetch 18 74 = some (.dup, 1, 0, 0) := rfl
theorem f18_75 : gFetch 18 75 = some (.invokespecial 9, 3, 160, 1) := rfl
theorem f18_78 : gFetch 18 78 = some (.putfield 35, 3, 11, 6) := rfl
theorem f18_81 : gFetch 18 81 = some (.return_, 1, 0, 0) := rfl
theorem f19_0 : gFetch 19 0 = some (.iload_n 1, 1, 0, 0) := rfl
theorem f19_1 : gFetch 19 1 = some (.bipush 43, 2, 0, 0) := rfl
theorem f19_3 : gFetch 19 3 = some (.if_icmp .eq 25, 3, 28, 0) := rfl
theorem f19_6 : gFetch 19 6 = some (.iload_n 1, 1, 0, 0) := rfl
theorem f19_7 : gFetch 19 7 = some (.bipush 62, 2, 0, 0) := rfl
theorem f19_9 : gFetch 19 9 = some (.if_icmp .eq 19, 3, 28, 0) := rfl
theorem f19_12 : gFetch 19 12 = some (.iload_n 1, 1, 0, 0) := rfl
theorem f19_13 : gFetch 19 13 = some (.bipush 60, 2, 0, 0) := rfl
theorem f19_15 : gFetch 19 15 = some (.if_icmp .eq 13, 3, 28, 0) := rfl
theorem f19_18 : gFetch 19 18 = some (.new 38, 3, 1001, 2) := rfl
theorem f19_21 : gFetch 19 21 = some (.dup, 1, 0, 0) := rfl
theorem f19_22 : gFetch 19 22 = some (.ldc 40, 2, 999, 0) := rfl
theorem f19_24 : gFetch 19 24 = some (.invokespecial 42, 3, 999, 0) := rfl
theorem f19_27 : gFetch 19 27 = some (.athrow, 1, 0, 0) := rfl
theorem f19_28 : gFetch 19 28 = some (.aload_n 0, 1, 0, 0) := rfl
theorem f19_29 : gFetch 19 29 = some (.getfield 10, 3, 11, 0) := rfl
theorem f19_32 : gFetch 19 32 = some (.invokevirtual 45, 3, 173, 1) := rfl
theorem f19_35 : gFetch 19 35 = some (.iconst 3, 1, 0, 0) := rfl
theorem f19_36 : gFetch 19 36 = some (.if_icmp .lt 13, 3, 49, 0) := rfl
theorem f19_39 : gFetch 19 39 = some (.new 49, 3, 1002, 2) := rfl
theorem f19_42 : gFetch 19 42 = some (.dup, 1, 0, 0) := rfl
theorem f19_43 : gFetch 19 43 = some (.ldc 51, 2, 999, 0) := rfl
theorem f19_45 : gFetch 19 45 = some (.invokespecial 53, 3, 999, 0) := rfl
theorem f19_48 : gFetch 19 48 = some (.athrow, 1, 0, 0) := rfl
theorem f19_49 : gFetch 19 49 = some (.new 54, 3, 4, 0) := rfl
theorem f19_52 : gFetch 19 52 = some (.dup, 1, 0, 0) := rfl
theorem f19_53 : gFetch 19 53 = some (.aload_n 0, 1, 0, 0) := rfl
theorem f19_54 : gFetch 19 54 = some (.getfield 10, 3, 11, 0) := rfl
theorem f19_57 : gFetch 19 57 = some (.invokevirtual 45, 3, 173, 1) := rfl
theorem f19_60 : gFetch 19 60 = some (.iload_n 1, 1, 0, 0) := rfl
theorem f19_61 : gFetch 19 61 = some (.invokespecial 56, 3, 104, 3) := rfl
theorem f19_64 : gFetch 19 64 = some (.astore_n 2, 1, 0, 0) := rfl
theorem f19_65 : gFetch 19 65 = some (.aload_n 0, 1, 0, 0) := rfl
theorem f19_66 : gFetch 19 66 = some (.getfield 10, 3, 11, 0) := rfl
theorem f19_69 : gFetch 19 69 = some (.aload_n 2, 1, 0, 0) := rfl
theorem f19_70 : gFetch 19 70 = some (.invokevirtual 59, 3, 162, 2) := rfl
theorem f19_73 : gFetch 19 73 = some (.pop, 1, 0, 0) := rfl
theorem f19_74 : gFetch 19 74 = some (.aload_n 2, 1, 0, 0) := rfl
theorem f19_75 : gFetch 19 75 = some (.getfield 63, 3, 4, 0) := rfl
theorem f19_78 : gFetch 19 78 = some (.ireturn, 1, 0, 0) := rfl
theorem f20_0 : gFetch 20 0 = some (.iconst 0, 1, 0, 0) := rfl
theorem f20_1 : gFetch 20 1 = some (.istore_n 2, 1, 0, 0) := rfl
theorem f20_2 : gFetch 20 2 = some (.iload_n 2, 1, 0, 0) := rfl
theorem f20_3 : gFetch 20 3 = some (.aload_n 0, 1, 0, 0) := rfl
theorem f20_4 : gFetch 20 4 = some (.invokevirtual 45, 3, 173, 1) := rfl
theorem f20_7 : gFetch 20 7 = some (.if_icmp .ge 27, 3, 34, 0) := rfl
theorem f20_10 : gFetch 20 10 = some (.aload_n 0, 1, 0, 0) := rfl
theorem f20_11 : gFetch 20 11 = some (.iload_n 2, 1, 0, 0) := rfl
theorem f20_12 : gFetch 20 12 = some (.invokevirtual 135, 3, 167, 2) := rfl
theorem f20_15 : gFetch 20 15 = some (.checkcast 95, 3, 2, 0) := rfl
theorem f20_18 : gFetch 20 18 = some (.getfield 383, 3, 2, 2) := rfl
theorem f20_21 : gFetch 20 21 = some (.aload_n 1, 1, 0, 0) := rfl
theorem f20_22 : gFetch 20 22 = some (.getfield 383, 3, 2, 2) := rfl
theorem f20_25 : gFetch 20 25 = some (.if_icmp .ge 9, 3, 34, 0) := rfl
theorem f20_28 : gFetch 20 28 = some (.iinc 2 1, 3, 0, 0) := rfl
theorem f20_31 : gFetch 20 31 = some (.goto (-29), 3, 2, 0) := rfl
theorem f20_34 : gFetch 20 34 = some (.aload_n 0, 1, 0, 0) := rfl
theorem f20_35 : gFetch 20 35 = some (.iload_n 2, 1, 0, 0) := rfl
theorem f20_36 : gFetch 20 36 = some (.aload_n 1, 1, 0, 0) := rfl
theorem f20_37 : gFetch 20 37 = some (.invokevirtual 386, 3, 161, 3) := rfl
theorem f20_40 : gFetch 20 40 = some (.return_, 1, 0, 0) := rfl
theorem f21_0 : gFetch 21 0 = some (.aload_n 1, 1, 0, 0) := rfl
theorem f21_1 : gFetch 21 1 = some (.iconst 0, 1, 0, 0) := rfl
theorem f21_2 : gFetch 21 2 = some (.invokevirtual 107, 3, 108, 2) := rfl
theorem f21_5 : gFetch 21 5 = some (.invokevirtual 127, 3, 119, 1) := rfl
theorem f21_8 : gFetch 21 8 = some (.istore_n 2, 1, 0, 0) := rfl
theorem f21_9 : gFetch 21 9 = some (.iload_n 2, 1, 0, 0) := rfl
theorem f21_10 : gFetch 21 10 = some (.bipush 6, 2, 0, 0) := rfl
theorem f21_12 : gFetch 21 12 = some (.if_icmp .lt 13, 3, 25, 0) := rfl
theorem f21_15 : gFetch 21 15 = some (.new 49, 3, 1002, 2) := rfl
theorem f21_18 : gFetch 21 18 = some (.dup, 1, 0, 0) := rfl
theorem f21_19 : gFetch 21 19 = some (.ldc 130, 2, 999, 0) := rfl
theorem f21_21 : gFetch 21 21 = some (.invokespecial 53, 3, 999, 0) := rfl
theorem f21_24 : gFetch 21 24 = some (.athrow, 1, 0, 0) := rfl
theorem f21_25 : gFetch 21 25 = some (.iload_n 2, 1, 0, 0) := rfl
theorem f21_26 : gFetch 21 26 = some (.iconst 4, 1, 0, 0) := rfl
theorem f21_27 : gFetch 21 27 = some (.if_icmp .lt 13, 3, 40, 0) := rfl
theorem f21_30 : gFetch 21 30 = some (.aload_n 0, 1, 0, 0) := rfl
theorem f21_31 : gFetch 21 31 = some (.dup, 1, 0, 0) := rfl
theorem f21_32 : gFetch 21 32 = some (.getfield 132, 3, 11, 16) := rfl
theorem f21_35 : gFetch 21 35 = some (.iconst 1, 1, 0, 0) := rfl
theorem f21_36 : gFetch 21 36 = some (.iadd, 1, 0, 0) := rfl
theorem f21_37 : gFetch 21 37 = some (.putfield 132, 3, 11, 16) := rfl
theorem f21_40 : gFetch 21 40 = some (.return_, 1, 0, 0) := rfl
theorem f22_0 : gFetch 22 0 = some (.aload_n 0, 1, 0, 0) := rfl
theorem f22_1 : gFetch 22 1 = some (.getfield 309, 3, 11, 14) := rfl
theorem f22_4 : gFetch 22 4 = some (.ireturn, 1, 0, 0) := rfl
theorem f23_0 : gFetch 23 0 = some (.aload_n 0, 1, 0, 0) := rfl
theorem f23_1 : gFetch 23 1 = some (.getfield 25, 3, 11, 4) := rfl
theorem f23_4 : gFetch 23 4 = some (.invokevirtual 45, 3, 173, 1) := rfl
theorem f23_7 : gFetch 23 7 = some (.iconst 3, 1, 0, 0) := rfl
theorem f23_8 : gFetch 23 8 = some (.if_icmp .lt 14, 3, 22, 0) := rfl
theorem f23_11 : gFetch 23 11 = some (.new 49, 3, 1002, 3) := rfl
theorem f23_14 : gFetch 23 14 = some (.dup, 1, 0, 0) := rfl
theorem f23_15 : gFetch 23 15 = some (.ldc_w 492, 3, 999, 0) := rfl
theorem f23_18 : gFetch 23 18 = some (.invokespecial 53, 3, 999, 0) := rfl
theorem f23_21 : gFetch 23 21 = some (.athrow, 1, 0, 0) := rfl
theorem f23_22 : gFetch 23 22 = some (.aload_n 0, 1, 0, 0) := rfl
theorem f23_23 : gFetch 23 23 = some (.getfield 25, 3, 11, 4) := rfl
theorem f23_26 : gFetch 23 26 = some (.new 494, 3, 1, 0) := rfl
theorem f23_29 : gFetch 23 29 = some (.dup, 1, 0, 0) := rfl
theorem f23_30 : gFetch 23 30 = some (.aload_n 0, 1, 0, 0) := rfl
theorem f23_31 : gFetch 23 31 = some (.getfield 10, 3, 11, 0) := rfl
theorem f23_34 : gFetch 23 34 = some (.aload_n 0, 1, 0, 0) := rfl
theorem f23_35 : gFetch 23 35 = some (.getfield 16, 3, 11, 1) := rfl
theorem f23_38 : gFetch 23 38 = some (.invokespecial 496, 3, 100, 3) := rfl
theorem f23_41 : gFetch 23 41 = some (.invokevirtual 59, 3, 162, 2) := rfl
theorem f23_44 : gFetch 23 44 = some (.pop, 1, 0, 0) := rfl
theorem f23_45 : gFetch 23 45 = some (.aload_n 0, 1, 0, 0) := rfl
theorem f23_46 : gFetch 23 46 = some (.getfield 25, 3, 11, 4) := rfl
theorem f23_49 : gFetch 23 49 = some (.invokevirtual 45, 3, 173, 1) := rfl
theorem f23_52 : gFetch 23 52 = some (.iconst 1, 1, 0, 0) := rfl
theorem f23_53 : gFetch 23 53 = some (.isub, 1, 0, 0) := rfl
theorem f23_54 : gFetch 23 54 = some (.ireturn, 1, 0, 0) := rfl
theorem f24_0 : gFetch 24 0 = some (.iload_n 1, 1, 0, 0) := rfl
theorem f24_1 : gFetch 24 1 = some (.ifCond .lt 14, 3, 15, 0) := rfl
theorem f24_4 : gFetch 24 4 = some (.iload_n 1, 1, 0, 0) := rfl
theorem f24_5 : gFetch 24 5 = some (.aload_n 0, 1, 0, 0) := rfl
theorem f24_6 : gFetch 24 6 = some (.getfield 25, 3, 11, 4) := rfl
theorem f24_9 : gFetch 24 9 = some (.invokevirtual 45, 3, 173, 1) := rfl
theorem f24_12 : gFetch 24 12 = some (.if_icmp .lt 14, 3, 26, 0) := rfl
theorem f24_15 : gFetch 24 15 = some (.new 195, 3, 1000, 3) := rfl
theorem f24_18 : gFetch 24 18 = some (.dup, 1, 0, 0) := rfl
theorem f24_19 : gFetch 24 19 = some (.ldc_w 517, 3, 999, 0) := rfl
theorem f24_22 : gFetch 24 22 = some (.invokespecial 199, 3, 999, 0) := rfl
theorem f24_25 : gFetch 24 25 = some (.athrow, 1, 0, 0) := rfl
theorem f24_26 : gFetch 24 26 = some (.aload_n 0, 1, 0, 0) := rfl
theorem f24_27 : gFetch 24 27 = some (.getfield 25, 3, 11, 4) := rfl
theorem f24_30 : gFetch 24 30 = some (.iload_n 1, 1, 0, 0) := rfl
theorem f24_31 : gFetch 24 31 = some (.invokevirtual 135, 3, 167, 2) := rfl
theorem f24_34 : gFetch 24 34 = some (.checkcast 494, 3, 1, 0) := rfl
theorem f24_37 : gFetch 24 37 = some (.areturn, 1, 0, 0) := rfl
theorem f25_0 : gFetch 25 0 = some (.fload_n 0, 1, 0, 0) := rfl
theorem f25_1 : gFetch 25 1 = some (.fconst 0, 1, 0, 0) := rfl
theorem f25_2 : gFetch 25 2 = some (.fcmp .g, 1, 0, 0) := rfl
theorem f25_3 : gFetch 25 3 = some (.ifCond .gt 5, 3, 8, 0) := rfl
theorem f25_6 : gFetch 25 6 = some (.iconst 0, 1, 0, 0) := rfl
theorem f25_7 : gFetch 25 7 = some (.ireturn, 1, 0, 0) := rfl
theorem f25_8 : gFetch 25 8 = some (.fload_n 0, 1, 0, 0) := rfl
theorem f25_9 : gFetch 25 9 = some (.fstore_n 1, 1, 0, 0) := rfl
theorem f25_10 : gFetch 25 10 = some (.bipush 127, 2, 0, 0) := rfl
theorem f25_12 : gFetch 25 12 = some (.istore_n 2, 1, 0, 0) := rfl
theorem f25_13 : gFetch 25 13 = some (.iconst 0, 1, 0, 0) := rfl
theorem f25_14 : gFetch 25 14 = some (.istore_n 3, 1, 0, 0) := rfl
theorem f25_15 : gFetch 25 15 = some (.iload_n 3, 1, 0, 0) := rfl
theorem f25_16 : gFetch 25 16 = some (.sipush 256, 3, 0, 0) := rfl
theorem f25_19 : gFetch 25 19 = some (.if_icmp .ge 22, 3, 41, 0) := rfl
theorem f25_22 : gFetch 25 22 = some (.fload_n 1, 1, 0, 0) := rfl
theorem f25_23 : gFetch 25 23 = some (.fconst 2, 1, 0, 0) := rfl
theorem f25_24 : gFetch 25 24 = some (.fcmp .l, 1, 0, 0) := rfl
theorem f25_25 : gFetch 25 25 = some (.ifCond .lt 16, 3, 41, 0) := rfl
theorem f25_28 : gFetch 25 28 = some (.fload_n 1, 1, 0, 0) := rfl
theorem f25_29 : gFetch 25 29 = some (.fconst 2, 1, 0, 0) := rfl
theorem f25_30 : gFetch 25 30 = some (.fdiv, 1, 0, 0) := rfl
theorem f25_31 : gFetch 25 31 = some (.fstore_n 1, 1, 0, 0) := rfl
theorem f25_32 : gFetch 25 32 = some (.iinc 2 1, 3, 0, 0) := rfl
theorem f25_35 : gFetch 25 35 = some (.iinc 3 1, 3, 0, 0) := rfl
theorem f25_38 : gFetch 25 38 = some (.goto (-23), 3, 15, 0) := rfl
theorem f25_41 : gFetch 25 41 = some (.iconst 0, 1, 0, 0) := rfl
theorem f25_42 : gFetch 25 42 = some (.istore_n 3, 1, 0, 0) := rfl
theorem f25_43 : gFetch 25 43 = some (.iload_n 3, 1, 0, 0) := rfl
theorem f25_44 : gFetch 25 44 = some (.sipush 256, 3, 0, 0) := rfl
theorem f25_47 : gFetch 25 47 = some (.if_icmp .ge 22, 3, 69, 0) := rfl
theorem f25_50 : gFetch 25 50 = some (.fload_n 1, 1, 0, 0) := rfl
theorem f25_51 : gFetch 25 51 = some (.fconst 1, 1, 0, 0) := rfl
theorem f25_52 : gFetch 25 52 = some (.fcmp .g, 1, 0, 0) := rfl
theorem f25_53 : gFetch 25 53 = some (.ifCond .ge 16, 3, 69, 0) := rfl
theorem f25_56 : gFetch 25 56 = some (.fload_n 1, 1, 0, 0) := rfl
theorem f25_57 : gFetch 25 57 = some (.fconst 2, 1, 0, 0) := rfl
theorem f25_58 : gFetch 25 58 = some (.fmul, 1, 0, 0) := rfl
theorem f25_59 : gFetch 25 59 = some (.fstore_n 1, 1, 0, 0) := rfl
theorem f25_60 : gFetch 25 60 = some (.iinc 2 (-1), 3, 0, 0) := rfl
theorem f25_63 : gFetch 25 63 = some (.iinc 3 1, 3, 0, 0) := rfl
theorem f25_66 : gFetch 25 66 = some (.goto (-23), 3, 43, 0) := rfl
theorem f25_69 : gFetch 25 69 = some (.iload_n 2, 1, 0, 0) := rfl
theorem f25_70 : gFetch 25 70 = some (.bipush 23, 2, 0, 0) := rfl
theorem f25_72 : gFetch 25 72 = some (.ishl, 1, 0, 0) := rfl
theorem f25_73 : gFetch 25 73 = some (.fload_n 1, 1, 0, 0) := rfl
theorem f25_74 : gFetch 25 74 = some (.fconst 1, 1, 0, 0) := rfl
theorem f25_75 : gFetch 25 75 = some (.fsub, 1, 0, 0) := rfl
theorem f25_76 : gFetch 25 76 = some (.ldc_w 539, 3, 1, 1258291200) := rfl
theorem f25_79 : gFetch 25 79 = some (.fmul, 1, 0, 0) := rfl
theorem f25_80 : gFetch 25 80 = some (.f2i, 1, 0, 0) := rfl
theorem f25_81 : gFetch 25 81 = some (.iadd, 1, 0, 0) := rfl
theorem f25_82 : gFetch 25 82 = some (.ireturn, 1, 0, 0) := rfl
theorem f26_0 : gFetch 26 0 = some (.aload_n 0, 1, 0, 0) := rfl
theorem f26_1 : gFetch 26 1 = some (.getfield 321, 3, 11, 13) := rfl
theorem f26_4 : gFetch 26 4 = some (.ireturn, 1, 0, 0) := rfl
theorem f27_0 : gFetch 27 0 = some (.aload_n 0, 1, 0, 0) := rfl
theorem f27_1 : gFetch 27 1 = some (.iload_n 1, 1, 0, 0) := rfl
theorem f27_2 : gFetch 27 2 = some (.iload_n 2, 1, 0, 0) := rfl
theorem f27_3 : gFetch 27 3 = some (.iload_n 3, 1, 0, 0) := rfl
theorem f27_4 : gFetch 27 4 = some (.invokevirtual 330, 3, 89, 4) := rfl
theorem f27_7 : gFetch 27 7 = some (.astore 5, 2, 0, 0) := rfl
theorem f27_9 : gFetch 27 9 = some (.iload 4, 2, 0, 0) := rfl
theorem f27_11 : gFetch 27 11 = some (.ifCond .eq 11, 3, 22, 0) := rfl
theorem f27_14 : gFetch 27 14 = some (.aload 5, 2, 0, 0) := rfl
theorem f27_16 : gFetch 27 16 = some (.getfield 338, 3, 8, 5) := rfl
theorem f27_19 : gFetch 27 19 = some (.goto 8, 3, 27, 0) := rfl
theorem f27_22 : gFetch 27 22 = some (.aload 5, 2, 0, 0) := rfl
theorem f27_24 : gFetch 27 24 = some (.getfield 341, 3, 8, 4) := rfl
theorem f27_27 : gFetch 27 27 = some (.ireturn, 1, 0, 0) := rfl
theorem f28_0 : gFetch 28 0 = some (.aload_n 0, 1, 0, 0) := rfl
theorem f28_1 : gFetch 28 1 = some (.iload_n 1, 1, 0, 0) := rfl
theorem f28_2 : gFetch 28 2 = some (.invokevirtual 71, 3, 47, 2) := rfl
theorem f28_5 : gFetch 28 5 = some (.astore 6, 2, 0, 0) := rfl
theorem f28_7 : gFetch 28 7 = some (.iload_n 2, 1, 0, 0) := rfl
theorem f28_8 : gFetch 28 8 = some (.iload_n 3, 1, 0, 0) := rfl
theorem f28_9 : gFetch 28 9 = some (.invokestatic 75, 3, 29, 2) := rfl
theorem f28_12 : gFetch 28 12 = some (.iload 4, 2, 0, 0) := rfl
theorem f28_14 : gFetch 28 14 = some (.iconst 1, 1, 0, 0) := rfl
theorem f28_15 : gFetch 28 15 = some (.if_icmp .lt 21, 3, 36, 0) := rfl
theorem f28_18 : gFetch 28 18 = some (.iload 4, 2, 0, 0) := rfl
theorem f28_20 : gFetch 28 20 = some (.bipush 20, 2, 0, 0) := rfl
theorem f28_22 : gFetch 28 22 = some (.if_icmp .gt 14, 3, 36, 0) := rfl
theorem f28_25 : gFetch 28 25 = some (.iload_n 3, 1, 0, 0) := rfl
theorem f28_26 : gFetch 28 26 = some (.iload_n 2, 1, 0, 0) := rfl
theorem f28_27 : gFetch 28 27 = some (.isub, 1, 0, 0) := rfl
theorem f28_28 : gFetch 28 28 = some (.iload 4, 2, 0, 0) := rfl
theorem f28_30 : gFetch 28 30 = some (.idiv, 1, 0, 0) := rfl
theorem f28_31 : gFetch 28 31 = some (.bipush 10, 2, 0, 0) := rfl
theorem f28_33 : gFetch 28 33 = some (.if_icmp .lt 13, 3, 46, 0) := rfl
theorem f28_36 : gFetch 28 36 = some (.new 38, 3, 1001, 2) := rfl
theorem f28_39 : gFetch 28 39 = some (.dup, 1, 0, 0) := rfl
theorem f28_40 : gFetch 28 40 = some (.ldc 79, 2, 999, 0) := rfl
theorem f28_42 : gFetch 28 42 = some (.invokespecial 42, 3, 999, 0) := rfl
theorem f28_45 : gFetch 28 45 = some (.athrow, 1, 0, 0) := rfl
theorem f28_46 : gFetch 28 46 = some (.aload_n 0, 1, 0, 0) := rfl
theorem f28_47 : gFetch 28 47 = some (.aload 6, 2, 0, 0) := rfl
theorem f28_49 : gFetch 28 49 = some (.invokevirtual 81, 3, 21, 2) := rfl
theorem f28_52 : gFetch 28 52 = some (.iload_n 3, 1, 0, 0) := rfl
theorem f28_53 : gFetch 28 53 = some (.iload_n 3, 1, 0, 0) := rfl
theorem f28_54 : gFetch 28 54 = some (.iload_n 2, 1, 0, 0) := rfl
theorem f28_55 : gFetch 28 55 = some (.isub, 1, 0, 0) := rfl
theorem f28_56 : gFetch 28 56 = some (.iload 4, 2, 0, 0) := rfl
theorem f28_58 : gFetch 28 58 = some (.irem, 1, 0, 0) := rfl
theorem f28_59 : gFetch 28 59 = some (.isub, 1, 0, 0) := rfl
theorem f28_60 : gFetch 28 60 = some (.istore 7, 2, 0, 0) := rfl
theorem f28_62 : gFetch 28 62 = some (.aload_n 0, 1, 0, 0) := rfl
theorem f28_63 : gFetch 28 63 = some (.aload 6, 2, 0, 0) := rfl
theorem f28_65 : gFetch 28 65 = some (.iload_n 2, 1, 0, 0) := rfl
theorem f28_66 : gFetch 28 66 = some (.iload 7, 2, 0, 0) := rfl
theorem f28_68 : gFetch 28 68 = some (.invokevirtual 85, 3, 64, 4) := rfl
theorem f28_71 : gFetch 28 71 = some (.ifCond .eq 10, 3, 81, 0) := rfl
theorem f28_74 : gFetch 28 74 = some (.aload_n 0, 1, 0, 0) := rfl
theorem f28_75 : gFetch 28 75 = some (.aload 6, 2, 0, 0) := rfl
theorem f28_77 : gFetch 28 77 = some (.invokevirtual 89, 3, 52, 2) := rfl
theorem f28_80 : gFetch 28 80 = some (.pop, 1, 0, 0) := rfl
theorem f28_81 : gFetch 28 81 = some (.aload_n 0, 1, 0, 0) := rfl
theorem f28_82 : gFetch 28 82 = some (.getfield 16, 3, 11, 1) := rfl
theorem f28_85 : gFetch 28 85 = some (.invokevirtual 45, 3, 173, 1) := rfl
theorem f28_88 : gFetch 28 88 = some (.iconst 1, 1, 0, 0) := rfl
theorem f28_89 : gFetch 28 89 = some (.iadd, 1, 0, 0) := rfl
theorem f28_90 : gFetch 28 90 = some (.istore 8, 2, 0, 0) := rfl
theorem f28_92 : gFetch 28 92 = some (.aload_n 0, 1, 0, 0) := rfl
theorem f28_93 : gFetch 28 93 = some (.getfield 16, 3, 11, 1) := rfl
theorem f28_96 : gFetch 28 96 = some (.new 93, 3, 10, 0) := rfl
theorem f28_99 : gFetch 28 99 = some (.dup, 1, 0, 0) := rfl
theorem f28_100 : gFetch 28 100 = some (.aload 6, 2, 0, 0) := rfl
theorem f28_102 : gFetch 28 102 = some (.getfield 63, 3, 4, 0) := rfl
theorem f28_105 : gFetch 28 105 = some (.new 95, 3, 2, 0) := rfl
theorem f28_108 : gFetch 28 108 = some (.dup, 1, 0, 0) := rfl
theorem f28_109 : gFetch 28 109 = some (.iconst 1, 1, 0, 0) := rfl
theorem f28_110 : gFetch 28 110 = some (.iload 8, 2, 0, 0) := rfl
theorem f28_112 : gFetch 28 112 = some (.iload_n 2, 1, 0, 0) := rfl
theorem f28_113 : gFetch 28 113 = some (.iload 7, 2, 0, 0) := rfl
theorem f28_115 : gFetch 28 115 = some (.iload 5, 2, 0, 0) := rfl
theorem f28_117 : gFetch 28 117 = some (.invokespecial 97, 3, 101, 6) := rfl
theorem f28_120 : gFetch 28 120 = some (.iload 4, 2, 0, 0) := rfl
theorem f28_122 : gFetch 28 122 = some (.iconst 3, 1, 0, 0) := rfl
theorem f28_123 : gFetch 28 123 = some (.invokespecial 100, 3, 150, 5) := rfl
theorem f28_126 : gFetch 28 126 = some (.invokevirtual 59, 3, 162, 2) := rfl
theorem f28_129 : gFetch 28 129 = some (.pop, 1, 0, 0) := rfl
theorem f28_130 : gFetch 28 130 = some (.aload_n 0, 1, 0, 0) := rfl
theorem f28_131 : gFetch 28 131 = some (.aload 6, 2, 0, 0) := rfl
theorem f28_133 : gFetch 28 133 = some (.iload_n 2, 1, 0, 0) := rfl
theorem f28_134 : gFetch 28 134 = some (.iload 7, 2, 0, 0) := rfl
theorem f28_136 : gFetch 28 136 = some (.invokevirtual 103, 3, 69, 4) := rfl
theorem f28_139 : gFetch 28 139 = some (.istore 9, 2, 0, 0) := rfl
theorem f28_141 : gFetch 28 141 = some (.new 7, 3, 0, 0) := rfl
theorem f28_144 : gFetch 28 144 = some (.dup, 1, 0, 0) := rfl
theorem f28_145 : gFetch 28 145 = some (.invokespecial 9, 3, 160, 1) := rfl
theorem f28_148 : gFetch 28 148 = some (.astore 10, 2, 0, 0) := rfl
theorem f28_150 : gFetch 28 150 = some (.iload_n 2, 1, 0, 0) := rfl
theorem f28_151 : gFetch 28 151 = some (.istore 11, 2, 0, 0) := rfl
theorem f28_153 : gFetch 28 153 = some (.iload 11, 2, 0, 0) := rfl
theorem f28_155 : gFetch 28 155 = some (.iload 7, 2, 0, 0) := rfl
theorem f28_157 : gFetch 28 157 = some (.if_icmp .gt 35, 3, 192, 0) := rfl
theorem f28_160 : gFetch 28 160 = some (.aload 10, 2, 0, 0) := rfl
theorem f28_162 : gFetch 28 162 = some (.new 95, 3, 2, 0) := rfl
theorem f28_165 : gFetch 28 165 = some (.dup, 1, 0, 0) := rfl
theorem f28_166 : gFetch 28 166 = some (.iconst 1, 1, 0, 0) := rfl
theorem f28_167 : gFetch 28 167 = some (.iload 8, 2, 0, 0) := rfl
theorem f28_169 : gFetch 28 169 = some (.iload 11, 2, 0, 0) := rfl
theorem f28_171 : gFetch 28 171 = some (.iload 11, 2, 0, 0) := rfl
theorem f28_173 : gFetch 28 173 = some (.iload 5, 2, 0, 0) := rfl
theorem f28_175 : gFetch 28 175 = some (.invokespecial 97, 3, 101, 6) := rfl
theorem f28_178 : gFetch 28 178 = some (.invokevirtual 59, 3, 162, 2) := rfl
theorem f28_181 : gFetch 28 181 = some (.pop, 1, 0, 0) := rfl
theorem f28_182 : gFetch 28 182 = some (.iload 11, 2, 0, 0) := rfl
theorem f28_184 : gFetch 28 184 = some (.iload 4, 2, 0, 0) := rfl
theorem f28_186 : gFetch 28 186 = some (.iadd, 1, 0, 0) := rfl
theorem f28_187 : gFetch 28 187 = some (.istore 11, 2, 0, 0) := rfl
theorem f28_189 : gFetch 28 189 = some (.goto (-36), 3, 153, 0) := rfl
theorem f28_192 : gFetch 28 192 = some (.aload 6, 2, 0, 0) := rfl
theorem f28_194 : gFetch 28 194 = some (.iload 9, 2, 0, 0) := rfl
theorem f28_196 : gFetch 28 196 = some (.invokevirtual 107, 3, 108, 2) := rfl
theorem f28_199 : gFetch 28 199 = some (.aload_n 0, 1, 0, 0) := rfl
theorem f28_200 : gFetch 28 200 = some (.iconst 0, 1, 0, 0) := rfl
theorem f28_201 : gFetch 28 201 = some (.aload 10, 2, 0, 0) := rfl
theorem f28_203 : gFetch 28 203 = some (.new 7, 3, 0, 0) := rfl
theorem f28_206 : gFetch 28 206 = some (.dup, 1, 0, 0) := rfl
theorem f28_207 : gFetch 28 207 = some (.invokespecial 9, 3, 160, 1) := rfl
theorem f28_210 : gFetch 28 210 = some (.invokevirtual 111, 3, 74, 4) := rfl
theorem f28_213 : gFetch 28 213 = some (.iload 9, 2, 0, 0) := rfl
theorem f28_215 : gFetch 28 215 = some (.ifCond .ne 7, 3, 222, 0) := rfl
theorem f28_218 : gFetch 28 218 = some (.iconst 1, 1, 0, 0) := rfl
theorem f28_219 : gFetch 28 219 = some (.goto 4, 3, 223, 0) := rfl
theorem f28_222 : gFetch 28 222 = some (.iconst 0, 1, 0, 0) := rfl
theorem f28_223 : gFetch 28 223 = some (.invokevirtual 115, 3, 121, 3) := rfl
theorem f28_226 : gFetch 28 226 = some (.aload_n 0, 1, 0, 0) := rfl
theorem f28_227 : gFetch 28 227 = some (.dup, 1, 0, 0) := rfl
theorem f28_228 : gFetch 28 228 = some (.getfield 121, 3, 11, 12) := rfl
theorem f28_231 : gFetch 28 231 = some (.iconst 1, 1, 0, 0) := rfl
theorem f28_232 : gFetch 28 232 = some (.iadd, 1, 0, 0) := rfl
theorem f28_233 : gFetch 28 233 = some (.putfield 121, 3, 11, 12) := rfl
theorem f28_236 : gFetch 28 236 = some (.iload 9, 2, 0, 0) := rfl
theorem f28_238 : gFetch 28 238 = some (.ireturn, 1, 0, 0) := rfl
theorem f29_0 : gFetch 29 0 = some (.iload_n 0, 1, 0, 0) := rfl
theorem f29_1 : gFetch 29 1 = some (.invokestatic 225, 3, 60, 1) := rfl
theorem f29_4 : gFetch 29 4 = some (.ifCond .eq 15, 3, 19, 0) := rfl
theorem f29_7 : gFetch 29 7 = some (.iload_n 1, 1, 0, 0) := rfl
theorem f29_8 : gFetch 29 8 = some (.invokestatic 225, 3, 60, 1) := rfl
theorem f29_11 : gFetch 29 11 = some (.ifCond .eq 8, 3, 19, 0) := rfl
theorem f29_14 : gFetch 29 14 = some (.iload_n 1, 1, 0, 0) := rfl
theorem f29_15 : gFetch 29 15 = some (.iload_n 0, 1, 0, 0) := rfl
theorem f29_16 : gFetch 29 16 = some (.if_icmp .ge 14, 3, 30, 0) := rfl
theorem f29_19 : gFetch 29 19 = some (.new 38, 3, 1001, 3) := rfl
theorem f29_22 : gFetch 29 22 = some (.dup, 1, 0, 0) := rfl
theorem f29_23 : gFetch 29 23 = some (.ldc_w 552, 3, 999, 0) := rfl
theorem f29_26 : gFetch 29 26 = some (.invokespecial 42, 3, 999, 0) := rfl
theorem f29_29 : gFetch 29 29 = some (.athrow, 1, 0, 0) := rfl
theorem f29_30 : gFetch 29 30 = some (.return_, 1, 0, 0) := rfl
theorem f30_0 : gFetch 30 0 = some (.aload_n 0, 1, 0, 0) := rfl
theorem f30_1 : gFetch 30 1 = some (.iload_n 1, 1, 0, 0) := rfl
theorem f30_2 : gFetch 30 2 = some (.invokevirtual 241, 3, 82, 2) := rfl
theorem f30_5 : gFetch 30 5 = some (.istore_n 2, 1, 0, 0) := rfl
theorem f30_6 : gFetch 30 6 = some (.iload_n 2, 1, 0, 0) := rfl
theorem f30_7 : gFetch 30 7 = some (.ifCond .lt 14, 3, 21, 0) := rfl
theorem f30_10 : gFetch 30 10 = some (.iload_n 2, 1, 0, 0) := rfl
theorem f30_11 : gFetch 30 11 = some (.aload_n 0, 1, 0, 0) := rfl
theorem f30_12 : gFetch 30 12 = some (.getfield 22, 3, 11, 3) := rfl
theorem f30_15 : gFetch 30 15 = some (.invokevirtual 45, 3, 173, 1) := rfl
theorem f30_18 : gFetch 30 18 = some (.if_icmp .lt 13, 3, 31, 0) := rfl
theorem f30_21 : gFetch 30 21 = some (.new 195, 3, 1000, 2) := rfl
theorem f30_24 : gFetch 30 24 = some (.dup, 1, 0, 0) := rfl
theorem f30_25 : gFetch 30 25 = some (.ldc 244, 2, 999, 0) := rfl
theorem f30_27 : gFetch 30 27 = some (.invokespecial 199, 3, 999, 0) := rfl
theorem f30_30 : gFetch 30 30 = some (.athrow, 1, 0, 0) := rfl
theorem f30_31 : gFetch 30 31 = some (.aload_n 0, 1, 0, 0) := rfl
theorem f30_32 : gFetch 30 32 = some (.getfield 22, 3, 11, 3) := rfl
theorem f30_35 : gFetch 30 35 = some (.iload_n 2, 1, 0, 0) := rfl
theorem f30_36 : gFetch 30 36 = some (.invokevirtual 200, 3, 172, 2) := rfl
theorem f30_39 : gFetch 30 39 = some (.pop, 1, 0, 0) := rfl
theorem f30_40 : gFetch 30 40 = some (.aload_n 0, 1, 0, 0) := rfl
theorem f30_41 : gFetch 30 41 = some (.getfield 22, 3, 11, 3) := rfl
theorem f30_44 : gFetch 30 44 = some (.invokevirtual 45, 3, 173, 1) := rfl
theorem f30_47 : gFetch 30 47 = some (.ireturn, 1, 0, 0) := rfl
theorem f31_0 : gFetch 31 0 = some (.aload_n 0, 1, 0, 0) := rfl
theorem f31_1 : gFetch 31 1 = some (.iload_n 1, 1, 0, 0) := rfl
theorem f31_2 : gFetch 31 2 = some (.invokevirtual 71, 3, 47, 2) := rfl
theorem f31_5 : gFetch 31 5 = some (.astore_n 2, 1, 0, 0) := rfl
theorem f31_6 : gFetch 31 6 = some (.aload_n 0, 1, 0, 0) := rfl
theorem f31_7 : gFetch 31 7 = some (.getfield 156, 3, 11, 7) := rfl
theorem f31_10 : gFetch 31 10 = some (.ifnull 14, 3, 24, 0) := rfl
theorem f31_13 : gFetch 31 13 = some (.new 49, 3, 1002, 3) := rfl
theorem f31_16 : gFetch 31 16 = some (.dup, 1, 0, 0) := rfl
theorem f31_17 : gFetch 31 17 = some (.ldc_w 352, 3, 999, 0) := rfl
theorem f31_20 : gFetch 31 20 = some (.invokespecial 53, 3, 999, 0) := rfl
theorem f31_23 : gFetch 31 23 = some (.athrow, 1, 0, 0) := rfl
theorem f31_24 : gFetch 31 24 = some (.aload_n 2, 1, 0, 0) := rfl
theorem f31_25 : gFetch 31 25 = some (.invokestatic 354, 3, 77, 1) := rfl
theorem f31_28 : gFetch 31 28 = some (.istore_n 3, 1, 0, 0) := rfl
theorem f31_29 : gFetch 31 29 = some (.aload_n 2, 1, 0, 0) := rfl
theorem f31_30 : gFetch 31 30 = some (.iload_n 3, 1, 0, 0) := rfl
theorem f31_31 : gFetch 31 31 = some (.invokevirtual 107, 3, 108, 2) := rfl
theorem f31_34 : gFetch 31 34 = some (.iload_n 3, 1, 0, 0) := rfl
theorem f31_35 : gFetch 31 35 = some (.invokestatic 344, 3, 38, 2) := rfl
theorem f31_38 : gFetch 31 38 = some (.fconst 1, 1, 0, 0) := rfl
theorem f31_39 : gFetch 31 39 = some (.fcmp .g, 1, 0, 0) := rfl
theorem f31_40 : gFetch 31 40 = some (.ifCond .ge 14, 3, 54, 0) := rfl
theorem f31_43 : gFetch 31 43 = some (.new 229, 3, 1003, 3) := rfl
theorem f31_46 : gFetch 31 46 = some (.dup, 1, 0, 0) := rfl
theorem f31_47 : gFetch 31 47 = some (.ldc_w 357, 3, 999, 0) := rfl
theorem f31_50 : gFetch 31 50 = some (.invokespecial 233, 3, 999, 0) := rfl
theorem f31_53 : gFetch 31 53 = some (.athrow, 1, 0, 0) := rfl
theorem f31_54 : gFetch 31 54 = some (.aload_n 0, 1, 0, 0) := rfl
theorem f31_55 : gFetch 31 55 = some (.new 161, 3, 7, 0) := rfl
theorem f31_58 : gFetch 31 58 = some (.dup, 1, 0, 0) := rfl
theorem f31_59 : gFetch 31 59 = some (.aload_n 2, 1, 0, 0) := rfl
theorem f31_60 : gFetch 31 60 = some (.iload_n 3, 1, 0, 0) := rfl
theorem f31_61 : gFetch 31 61 = some (.invokespecial 359, 3, 128, 3) := rfl
theorem f31_64 : gFetch 31 64 = some (.putfield 156, 3, 11, 7) := rfl
theorem f31_67 : gFetch 31 67 = some (.iload_n 3, 1, 0, 0) := rfl
theorem f31_68 : gFetch 31 68 = some (.ireturn, 1, 0, 0) := rfl
theorem f32_0 : gFetch 32 0 = some (.iconst 0, 1, 0, 0) := rfl
theorem f32_1 : gFetch 32 1 = some (.istore_n 2, 1, 0, 0) := rfl
theorem f32_2 : gFetch 32 2 = some (.iconst 0, 1, 0, 0) := rfl
theorem f32_3 : gFetch 32 3 = some (.istore_n 3, 1, 0, 0) := rfl
theorem f32_4 : gFetch 32 4 = some (.iload_n 3, 1, 0, 0) := rfl
theorem f32_5 : gFetch 32 5 = some (.aload_n 0, 1, 0, 0) := rfl
theorem f32_6 : gFetch 32 6 = some (.getfield 16, 3, 11, 1) := rfl
theorem f32_9 : gFetch 32 9 = some (.invokevirtual 45, 3, 173, 1) := rfl
theorem f32_12 : gFetch 32 12 = some (.if_icmp .ge 30, 3, 42, 0) := rfl
theorem f32_15 : gFetch 32 15 = some (.aload_n 0, 1, 0, 0) := rfl
theorem f32_16 : gFetch 32 16 = some (.getfield 16, 3, 11, 1) := rfl
theorem f32_19 : gFetch 32 19 = some (.iload_n 3, 1, 0, 0) := rfl
theorem f32_20 : gFetch 32 20 = some (.invokevirtual 135, 3, 167, 2) := rfl
theorem f32_23 : gFetch 32 23 = some (.checkcast 93, 3, 10, 0) := rfl
theorem f32_26 : gFetch 32 26 = some (.aload_n 1, 1, 0, 0) := rfl
theorem f32_27 : gFetch 32 27 = some (.invokevirtual 139, 3, 153, 2) := rfl
theorem f32_30 : gFetch 32 30 = some (.ifCond .eq 6, 3, 36, 0) := rfl
theorem f32_33 : gFetch 32 33 = some (.iinc 2 1, 3, 0, 0) := rfl
theorem f32_36 : gFetch 32 36 = some (.iinc 3 1, 3, 0, 0) := rfl
theorem f32_39 : gFetch 32 39 = some (.goto (-35), 3, 4, 0) := rfl
theorem f32_42 : gFetch 32 42 = some (.iload_n 2, 1, 0, 0) := rfl
theorem f32_43 : gFetch 32 43 = some (.ireturn, 1, 0, 0) := rfl
theorem f33_0 : gFetch 33 0 = some (.aload_n 1, 1, 0, 0) := rfl
theorem f33_1 : gFetch 33 1 = some (.getfield 302, 3, 8, 2) := rfl
theorem f33_4 : gFetch 33 4 = some (.invokevirtual 305, 3, 170, 1) := rfl
theorem f33_7 : gFetch 33 7 = some (.ifCond .eq 4, 3, 11, 0) := rfl
theorem f33_10 : gFetch 33 10 = some (.return_, 1, 0, 0) := rfl
theorem f33_11 : gFetch 33 11 = some (.aload_n 0, 1, 0, 0) := rfl
theorem f33_12 : gFetch 33 12 = some (.dup, 1, 0, 0) := rfl
theorem f33_13 : gFetch 33 13 = some (.getfield 309, 3, 11, 14) := rfl
theorem f33_16 : gFetch 33 16 = some (.iconst 1, 1, 0, 0) := rfl
theorem f33_17 : gFetch 33 17 = some (.iadd, 1, 0, 0) := rfl
theorem f33_18 : gFetch 33 18 = some (.putfield 309, 3, 11, 14) := rfl
theorem f33_21 : gFetch 33 21 = some (.aload_n 1, 1, 0, 0) := rfl
theorem f33_22 : gFetch 33 22 = some (.iload_n 2, 1, 0, 0) := rfl
theorem f33_23 : gFetch 33 23 = some (.invokevirtual 312, 3, 144, 2) := rfl
theorem f33_26 : gFetch 33 26 = some (.ifCond .ne 4, 3, 30, 0) := rfl
theorem f33_29 : gFetch 33 29 = some (.return_, 1, 0, 0) := rfl
theorem f33_30 : gFetch 33 30 = some (.aload_n 1, 1, 0, 0) := rfl
theorem f33_31 : gFetch 33 31 = some (.iload_n 2, 1, 0, 0) := rfl
theorem f33_32 : gFetch 33 32 = some (.invokevirtual 315, 3, 140, 2) := rfl
theorem f33_35 : gFetch 33 35 = some (.istore_n 3, 1, 0, 0) := rfl
theorem f33_36 : gFetch 33 36 = some (.iload_n 3, 1, 0, 0) := rfl
theorem f33_37 : gFetch 33 37 = some (.ifCond .ne 23, 3, 60, 0) := rfl
theorem f33_40 : gFetch 33 40 = some (.aload_n 0, 1, 0, 0) := rfl
theorem f33_41 : gFetch 33 41 = some (.dup, 1, 0, 0) := rfl
theorem f33_42 : gFetch 33 42 = some (.getfield 318, 3, 11, 15) := rfl
theorem f33_45 : gFetch 33 45 = some (.iconst 1, 1, 0, 0) := rfl
theorem f33_46 : gFetch 33 46 = some (.iadd, 1, 0, 0) := rfl
theorem f33_47 : gFetch 33 47 = some (.putfield 318, 3, 11, 15) := rfl
theorem f33_50 : gFetch 33 50 = some (.aload_n 0, 1, 0, 0) := rfl
theorem f33_51 : gFetch 33 51 = some (.dup, 1, 0, 0) := rfl
theorem f33_52 : gFetch 33 52 = some (.getfield 321, 3, 11, 13) := rfl
theorem f33_55 : gFetch 33 55 = some (.iconst 1, 1, 0, 0) := rfl
theorem f33_56 : gFetch 33 56 = some (.iadd, 1, 0, 0) := rfl
theorem f33_57 : gFetch 33 57 = some (.putfield 321, 3, 11, 13) := rfl
theorem f33_60 : gFetch 33 60 = some (.aload_n 0, 1, 0, 0) := rfl
theorem f33_61 : gFetch 33 61 = some (.dup, 1, 0, 0) := rfl
theorem f33_62 : gFetch 33 62 = some (.getfield 321, 3, 11, 13) := rfl
theorem f33_65 : gFetch 33 65 = some (.iload_n 3, 1, 0, 0) := rfl
theorem f33_66 : gFetch 33 66 = some (.iadd, 1, 0, 0) := rfl
theorem f33_67 : gFetch 33 67 = some (.putfield 321, 3, 11, 13) := rfl
theorem f33_70 : gFetch 33 70 = some (.return_, 1, 0, 0) := rfl
theorem f34_0 : gFetch 34 0 = some (.iconst 0, 1, 0, 0) := rfl
theorem f34_1 : gFetch 34 1 = some (.istore_n 1, 1, 0, 0) := rfl
theorem f34_2 : gFetch 34 2 = some (.iconst 0, 1, 0, 0) := rfl
theorem f34_3 : gFetch 34 3 = some (.istore_n 2, 1, 0, 0) := rfl
theorem f34_4 : gFetch 34 4 = some (.iload_n 2, 1, 0, 0) := rfl
theorem f34_5 : gFetch 34 5 = some (.aload_n 0, 1, 0, 0) := rfl
theorem f34_6 : gFetch 34 6 = some (.getfield 16, 3, 11, 1) := rfl
theorem f34_9 : gFetch 34 9 = some (.invokevirtual 45, 3, 173, 1) := rfl
theorem f34_12 : gFetch 34 12 = some (.if_icmp .ge 37, 3, 49, 0) := rfl
theorem f34_15 : gFetch 34 15 = some (.aload_n 0, 1, 0, 0) := rfl
theorem f34_16 : gFetch 34 16 = some (.getfield 16, 3, 11, 1) := rfl
theorem f34_19 : gFetch 34 19 = some (.iload_n 2, 1, 0, 0) := rfl
theorem f34_20 : gFetch 34 20 = some (.invokevirtual 135, 3, 167, 2) := rfl
theorem f34_23 : gFetch 34 23 = some (.checkcast 93, 3, 10, 0) := rfl
theorem f34_26 : gFetch 34 26 = some (.astore_n 3, 1, 0, 0) := rfl
theorem f34_27 : gFetch 34 27 = some (.aload_n 3, 1, 0, 0) := rfl
theorem f34_28 : gFetch 34 28 = some (.getfield 373, 3, 10, 3) := rfl
theorem f34_31 : gFetch 34 31 = some (.iconst 1, 1, 0, 0) := rfl
theorem f34_32 : gFetch 34 32 = some (.if_icmp .ne 11, 3, 43, 0) := rfl
theorem f34_35 : gFetch 34 35 = some (.aload_n 3, 1, 0, 0) := rfl
theorem f34_36 : gFetch 34 36 = some (.iconst 0, 1, 0, 0) := rfl
theorem f34_37 : gFetch 34 37 = some (.putfield 373, 3, 10, 3) := rfl
theorem f34_40 : gFetch 34 40 = some (.iinc 1 1, 3, 0, 0) := rfl
theorem f34_43 : gFetch 34 43 = some (.iinc 2 1, 3, 0, 0) := rfl
theorem f34_46 : gFetch 34 46 = some (.goto (-42), 3, 4, 0) := rfl
theorem f34_49 : gFetch 34 49 = some (.aload_n 0, 1, 0, 0) := rfl
theorem f34_50 : gFetch 34 50 = some (.invokevirtual 489, 3, 53, 1) := rfl
theorem f34_53 : gFetch 34 53 = some (.iload_n 1, 1, 0, 0) := rfl
theorem f34_54 : gFetch 34 54 = some (.ireturn, 1, 0, 0) := rfl
theorem f35_0 : gFetch 35 0 = some (.aload_n 0, 1, 0, 0) := rfl
theorem f35_1 : gFetch 35 1 = some (.iload_n 1, 1, 0, 0) := rfl
theorem f35_2 : gFetch 35 2 = some (.invokevirtual 241, 3, 82, 2) := rfl
theorem f35_5 : gFetch 35 5 = some (.istore_n 2, 1, 0, 0) := rfl
theorem f35_6 : gFetch 35 6 = some (.iload_n 2, 1, 0, 0) := rfl
theorem f35_7 : gFetch 35 7 = some (.ifCond .lt 14, 3, 21, 0) := rfl
theorem f35_10 : gFetch 35 10 = some (.iload_n 2, 1, 0, 0) := rfl
theorem f35_11 : gFetch 35 11 = some (.aload_n 0, 1, 0, 0) := rfl
theorem f35_12 : gFetch 35 12 = some (.getfield 22, 3, 11, 3) := rfl
theorem f35_15 : gFetch 35 15 = some (.invokevirtual 45, 3, 173, 1) := rfl
theorem f35_18 : gFetch 35 18 = some (.if_icmp .lt 13, 3, 31, 0) := rfl
theorem f35_21 : gFetch 35 21 = some (.new 195, 3, 1000, 2) := rfl
theorem f35_24 : gFetch 35 24 = some (.dup, 1, 0, 0) := rfl
theorem f35_25 : gFetch 35 25 = some (.ldc 244, 2, 999, 0) := rfl
theorem f35_27 : gFetch 35 27 = some (.invokespecial 199, 3, 999, 0) := rfl
theorem f35_30 : gFetch 35 30 = some (.athrow, 1, 0, 0) := rfl
theorem f35_31 : gFetch 35 31 = some (.aload_n 0, 1, 0, 0) := rfl
theorem f35_32 : gFetch 35 32 = some (.getfield 22, 3, 11, 3) := rfl
theorem f35_35 : gFetch 35 35 = some (.iload_n 2, 1, 0, 0) := rfl
theorem f35_36 : gFetch 35 36 = some (.invokevirtual 135, 3, 167, 2) := rfl
theorem f35_39 : gFetch 35 39 = some (.checkcast 205, 3, 3, 0) := rfl
theorem f35_42 : gFetch 35 42 = some (.areturn, 1, 0, 0) := rfl
theorem f36_0 : gFetch 36 0 = some (.aload_n 0, 1, 0, 0) := rfl
theorem f36_1 : gFetch 36 1 = some (.iload_n 1, 1, 0, 0) := rfl
theorem f36_2 : gFetch 36 2 = some (.iload_n 2, 1, 0, 0) := rfl
theorem f36_3 : gFetch 36 3 = some (.invokevirtual 326, 3, 68, 3) := rfl
theorem f36_6 : gFetch 36 6 = some (.iload_n 2, 1, 0, 0) := rfl
theorem f36_7 : gFetch 36 7 = some (.invokestatic 344, 3, 38, 2) := rfl
theorem f36_10 : gFetch 36 10 = some (.freturn, 1, 0, 0) := rfl
theorem f37_0 : gFetch 37 0 = some (.aload_n 0, 1, 0, 0) := rfl
theorem f37_1 : gFetch 37 1 = some (.iload_n 1, 1, 0, 0) := rfl
theorem f37_2 : gFetch 37 2 = some (.iload_n 2, 1, 0, 0) := rfl
theorem f37_3 : gFetch 37 3 = some (.invokevirtual 326, 3, 68, 3) := rfl
theorem f37_6 : gFetch 37 6 = some (.iload_n 2, 1, 0, 0) := rfl
theorem f37_7 : gFetch 37 7 = some (.invokestatic 344, 3, 38, 2) := rfl
theorem f37_10 : gFetch 37 10 = some (.invokestatic 348, 3, 25, 1) := rfl
theorem f37_13 : gFetch 37 13 = some (.ireturn, 1, 0, 0) := rfl
theorem f38_0 : gFetch 38 0 = some (.iload_n 1, 1, 0, 0) := rfl
theorem f38_1 : gFetch 38 1 = some (.tableswitch 57 0 2 #[27, 37, 47], 27, 0, 0) := rfl
theorem f38_28 : gFetch 38 28 = some (.aload_n 0, 1, 0, 0) := rfl
theorem f38_29 : gFetch 38 29 = some (.invokevirtual 127, 3, 119, 1) := rfl
theorem f38_32 : gFetch 38 32 = some (.i2f, 1, 0, 0) := rfl
theorem f38_33 : gFetch 38 33 = some (.ldc_w 401, 3, 1, 1077936128) := rfl
theorem f38_36 : gFetch 38 36 = some (.fdiv, 1, 0, 0) := rfl
theorem f38_37 : gFetch 38 37 = some (.freturn, 1, 0, 0) := rfl
theorem f38_38 : gFetch 38 38 = some (.aload_n 0, 1, 0, 0) := rfl
theorem f38_39 : gFetch 38 39 = some (.invokevirtual 402, 3, 127, 1) := rfl
theorem f38_42 : gFetch 38 42 = some (.i2f, 1, 0, 0) := rfl
theorem f38_43 : gFetch 38 43 = some (.ldc_w 403, 3, 1, 1090519040) := rfl
theorem f38_46 : gFetch 38 46 = some (.fdiv, 1, 0, 0) := rfl
theorem f38_47 : gFetch 38 47 = some (.freturn, 1, 0, 0) := rfl
theorem f38_48 : gFetch 38 48 = some (.aload_n 0, 1, 0, 0) := rfl
theorem f38_49 : gFetch 38 49 = some (.invokevirtual 402, 3, 127, 1) := rfl
theorem f38_52 : gFetch 38 52 = some (.i2f, 1, 0, 0) := rfl
theorem f38_53 : gFetch 38 53 = some (.ldc_w 404, 3, 1, 1103101952) := rfl
theorem f38_56 : gFetch 38 56 = some (.fdiv, 1, 0, 0) := rfl
theorem f38_57 : gFetch 38 57 = some (.freturn, 1, 0, 0) := rfl
theorem f38_58 : gFetch 38 58 = some (.fconst 0, 1, 0, 0) := rfl
theorem f38_59 : gFetch 38 59 = some (.freturn, 1, 0, 0) := rfl
theorem f39_0 : gFetch 39 0 = some (.aload_n 0, 1, 0, 0) := rfl
theorem f39_1 : gFetch 39 1 = some (.iload_n 1, 1, 0, 0) := rfl
theorem f39_2 : gFetch 39 2 = some (.iconst 2, 1, 0, 0) := rfl
theorem f39_3 : gFetch 39 3 = some (.iload_n 2, 1, 0, 0) := rfl
theorem f39_4 : gFetch 39 4 = some (.iload_n 2, 1, 0, 0) := rfl
theorem f39_5 : gFetch 39 5 = some (.iconst 0, 1, 0, 0) := rfl
theorem f39_6 : gFetch 39 6 = some (.invokevirtual 67, 3, 99, 6) := rfl
theorem f39_9 : gFetch 39 9 = some (.ireturn, 1, 0, 0) := rfl
theorem f40_0 : gFetch 40 0 = some (.aload_n 0, 1, 0, 0) := rfl
theorem f40_1 : gFetch 40 1 = some (.iload_n 1, 1, 0, 0) := rfl
theorem f40_2 : gFetch 40 2 = some (.iconst 3, 1, 0, 0) := rfl
theorem f40_3 : gFetch 40 3 = some (.iload_n 2, 1, 0, 0) := rfl
theorem f40_4 : gFetch 40 4 = some (.iload_n 3, 1, 0, 0) := rfl
theorem f40_5 : gFetch 40 5 = some (.iconst 0, 1, 0, 0) := rfl
theorem f40_6 : gFetch 40 6 = some (.invokevirtual 67, 3, 99, 6) := rfl
theorem f40_9 : gFetch 40 9 = some (.ireturn, 1, 0, 0) := rfl
theorem f41_0 : gFetch 41 0 = some (.aload_n 1, 1, 0, 0) := rfl
theorem f41_1 : gFetch 41 1 = some (.dup, 1, 0, 0) := rfl
theorem f41_2 : gFetch 41 2 = some (.getfield 370, 3, 7, 6) := rfl
theorem f41_5 : gFetch 41 5 = some (.iconst 1, 1, 0, 0) := rfl
theorem f41_6 : gFetch 41 6 = some (.iadd, 1, 0, 0) := rfl
theorem f41_7 : gFetch 41 7 = some (.putfield 370, 3, 7, 6) := rfl
theorem f41_10 : gFetch 41 10 = some (.aload_n 1, 1, 0, 0) := rfl
theorem f41_11 : gFetch 41 11 = some (.aload_n 1, 1, 0, 0) := rfl
theorem f41_12 : gFetch 41 12 = some (.invokevirtual 405, 3, 135, 1) := rfl
theorem f41_15 : gFetch 41 15 = some (.putfield 408, 3, 7, 5) := rfl
theorem f41_18 : gFetch 41 18 = some (.aload_n 1, 1, 0, 0) := rfl
theorem f41_19 : gFetch 41 19 = some (.getfield 408, 3, 7, 5) := rfl
theorem f41_22 : gFetch 41 22 = some (.bipush 100, 2, 0, 0) := rfl
theorem f41_24 : gFetch 41 24 = some (.if_icmp .ge 11, 3, 35, 0) := rfl
theorem f41_27 : gFetch 41 27 = some (.aload_n 0, 1, 0, 0) := rfl
theorem f41_28 : gFetch 41 28 = some (.aload_n 1, 1, 0, 0) := rfl
theorem f41_29 : gFetch 41 29 = some (.invokevirtual 411, 3, 92, 2) := rfl
theorem f41_32 : gFetch 41 32 = some (.goto 8, 3, 40, 0) := rfl
theorem f41_35 : gFetch 41 35 = some (.aload_n 0, 1, 0, 0) := rfl
theorem f41_36 : gFetch 41 36 = some (.aload_n 1, 1, 0, 0) := rfl
theorem f41_37 : gFetch 41 37 = some (.invokevirtual 414, 3, 50, 2) := rfl
theorem f41_40 : gFetch 41 40 = some (.return_, 1, 0, 0) := rfl
theorem f42_0 : gFetch 42 0 = some (.aload_n 1, 1, 0, 0) := rfl
theorem f42_1 : gFetch 42 1 = some (.arraylength, 1, 0, 0) := rfl
theorem f42_2 : gFetch 42 2 = some (.iconst 1, 1, 0, 0) := rfl
theorem f42_3 : gFetch 42 3 = some (.isub, 1, 0, 0) := rfl
theorem f42_4 : gFetch 42 4 = some (.istore_n 2, 1, 0, 0) := rfl
theorem f42_5 : gFetch 42 5 = some (.iload_n 2, 1, 0, 0) := rfl
theorem f42_6 : gFetch 42 6 = some (.ifCond .lt 49, 3, 55, 0) := rfl
theorem f42_9 : gFetch 42 9 = some (.aload_n 1, 1, 0, 0) := rfl
theorem f42_10 : gFetch 42 10 = some (.iload_n 2, 1, 0, 0) := rfl
theorem f42_11 : gFetch 42 11 = some (.baload, 1, 0, 0) := rfl
theorem f42_12 : gFetch 42 12 = some (.ifCond .eq 37, 3, 49, 0) := rfl
theorem f42_15 : gFetch 42 15 = some (.iload_n 2, 1, 0, 0) := rfl
theorem f42_16 : gFetch 42 16 = some (.aload_n 0, 1, 0, 0) := rfl
theorem f42_17 : gFetch 42 17 = some (.getfield 35, 3, 11, 6) := rfl
theorem f42_20 : gFetch 42 20 = some (.invokevirtual 45, 3, 173, 1) := rfl
theorem f42_23 : gFetch 42 23 = some (.if_icmp .ge 26, 3, 49, 0) := rfl
theorem f42_26 : gFetch 42 26 = some (.aload_n 0, 1, 0, 0) := rfl
theorem f42_27 : gFetch 42 27 = some (.getfield 35, 3, 11, 6) := rfl
theorem f42_30 : gFetch 42 30 = some (.iload_n 2, 1, 0, 0) := rfl
theorem f42_31 : gFetch 42 31 = some (.invokevirtual 135, 3, 167, 2) := rfl
theorem f42_34 : gFetch 42 34 = some (.checkcast 95, 3, 2, 0) := rfl
theorem f42_37 : gFetch 42 37 = some (.getfield 376, 3, 2, 0) := rfl
theorem f42_40 : gFetch 42 40 = some (.iconst 2, 1, 0, 0) := rfl
theorem f42_41 : gFetch 42 41 = some (.if_icmp .eq 4, 3, 45, 0) := rfl
theorem f42_44 : gFetch 42 44 = some (.return_, 1, 0, 0) := rfl
theorem f42_45 : gFetch 42 45 = some (.aload_n 1, 1, 0, 0) := rfl
theorem f42_46 : gFetch 42 46 = some (.iload_n 2, 1, 0, 0) := rfl
theorem f42_47 : gFetch 42 47 = some (.iconst 0, 1, 0, 0) := rfl
theorem f42_48 : gFetch 42 48 = some (.bastore, 1, 0, 0) := rfl
theorem f42_49 : gFetch 42 49 = some (.iinc 2 (-1), 3, 0, 0) := rfl
theorem f42_52 : gFetch 42 52 = some (.goto (-47), 3, 5, 0) := rfl
theorem f42_55 : gFetch 42 55 = some (.return_, 1, 0, 0) := rfl
theorem f43_0 : gFetch 43 0 = some (.iload_n 1, 1, 0, 0) := rfl
theorem f43_1 : gFetch 43 1 = some (.ifCond .lt 11, 3, 12, 0) := rfl
theorem f43_4 : gFetch 43 4 = some (.iload_n 1, 1, 0, 0) := rfl
theorem f43_5 : gFetch 43 5 = some (.aload_n 0, 1, 0, 0) := rfl
theorem f43_6 : gFetch 43 6 = some (.invokevirtual 45, 3, 173, 1) := rfl
theorem f43_9 : gFetch 43 9 = some (.if_icmp .lt 5, 3, 14, 0) := rfl
theorem f43_12 : gFetch 43 12 = some (.iload_n 1, 1, 0, 0) := rfl
theorem f43_13 : gFetch 43 13 = some (.ireturn, 1, 0, 0) := rfl
theorem f43_14 : gFetch 43 14 = some (.aload_n 0, 1, 0, 0) := rfl
theorem f43_15 : gFetch 43 15 = some (.iload_n 1, 1, 0, 0) := rfl
theorem f43_16 : gFetch 43 16 = some (.invokevirtual 135, 3, 167, 2) := rfl
theorem f43_19 : gFetch 43 19 = some (.checkcast 95, 3, 2, 0) := rfl
theorem f43_22 : gFetch 43 22 = some (.getfield 383, 3, 2, 2) := rfl
theorem f43_25 : gFetch 43 25 = some (.istore_n 2, 1, 0, 0) := rfl
theorem f43_26 : gFetch 43 26 = some (.iload_n 1, 1, 0, 0) := rfl
theorem f43_27 : gFetch 43 27 = some (.istore_n 3, 1, 0, 0) := rfl
theorem f43_28 : gFetch 43 28 = some (.iload_n 3, 1, 0, 0) := rfl
theorem f43_29 : gFetch 43 29 = some (.aload_n 0, 1, 0, 0) := rfl
theorem f43_30 : gFetch 43 30 = some (.invokevirtual 45, 3, 173, 1) := rfl
theorem f43_33 : gFetch 43 33 = some (.if_icmp .ge 24, 3, 57, 0) := rfl
theorem f43_36 : gFetch 43 36 = some (.aload_n 0, 1, 0, 0) := rfl
theorem f43_37 : gFetch 43 37 = some (.iload_n 3, 1, 0, 0) := rfl
theorem f43_38 : gFetch 43 38 = some (.invokevirtual 135, 3, 167, 2) := rfl
theorem f43_41 : gFetch 43 41 = some (.checkcast 95, 3, 2, 0) := rfl
theorem f43_44 : gFetch 43 44 = some (.getfield 383, 3, 2, 2) := rfl
theorem f43_47 : gFetch 43 47 = some (.iload_n 2, 1, 0, 0) := rfl
theorem f43_48 : gFetch 43 48 = some (.if_icmp .ne 9, 3, 57, 0) := rfl
theorem f43_51 : gFetch 43 51 = some (.iinc 3 1, 3, 0, 0) := rfl
theorem f43_54 : gFetch 43 54 = some (.goto (-26), 3, 28, 0) := rfl
theorem f43_57 : gFetch 43 57 = some (.iload_n 3, 1, 0, 0) := rfl
theorem f43_58 : gFetch 43 58 = some (.ireturn, 1, 0, 0) := rfl
theorem f44_0 : gFetch 44 0 = some (.aload_n 0, 1, 0, 0) := rfl
theorem f44_1 : gFetch 44 1 = some (.iload_n 1, 1, 0, 0) := rfl
theorem f44_2 : gFetch 44 2 = some (.invokestatic 480, 3, 43, 2) := rfl
theorem f44_5 : gFetch 44 5 = some (.istore_n 2, 1, 0, 0) := rfl
theorem f44_6 : gFetch 44 6 = some (.iload_n 2, 1, 0, 0) := rfl
theorem f44_7 : gFetch 44 7 = some (.aload_n 0, 1, 0, 0) := rfl
theorem f44_8 : gFetch 44 8 = some (.invokevirtual 45, 3, 173, 1) := rfl
theorem f44_11 : gFetch 44 11 = some (.if_icmp .ge 29, 3, 40, 0) := rfl
theorem f44_14 : gFetch 44 14 = some (.aload_n 0, 1, 0, 0) := rfl
theorem f44_15 : gFetch 44 15 = some (.iload_n 2, 1, 0, 0) := rfl
theorem f44_16 : gFetch 44 16 = some (.invokestatic 480, 3, 43, 2) := rfl
theorem f44_19 : gFetch 44 19 = some (.istore_n 3, 1, 0, 0) := rfl
theorem f44_20 : gFetch 44 20 = some (.iload_n 3, 1, 0, 0) := rfl
theorem f44_21 : gFetch 44 21 = some (.iload_n 1, 1, 0, 0) := rfl
theorem f44_22 : gFetch 44 22 = some (.isub, 1, 0, 0) := rfl
theorem f44_23 : gFetch 44 23 = some (.bipush 6, 2, 0, 0) := rfl
theorem f44_25 : gFetch 44 25 = some (.if_icmp .gt 8, 3, 33, 0) := rfl
theorem f44_28 : gFetch 44 28 = some (.iload_n 3, 1, 0, 0) := rfl
theorem f44_29 : gFetch 44 29 = some (.iload_n 2, 1, 0, 0) := rfl
theorem f44_30 : gFetch 44 30 = some (.if_icmp .gt 5, 3, 35, 0) := rfl
theorem f44_33 : gFetch 44 33 = some (.iload_n 2, 1, 0, 0) := rfl
theorem f44_34 : gFetch 44 34 = some (.ireturn, 1, 0, 0) := rfl
theorem f44_35 : gFetch 44 35 = some (.iload_n 3, 1, 0, 0) := rfl
theorem f44_36 : gFetch 44 36 = some (.istore_n 2, 1, 0, 0) := rfl
theorem f44_37 : gFetch 44 37 = some (.goto (-31), 3, 6, 0) := rfl
theorem f44_40 : gFetch 44 40 = some (.iload_n 2, 1, 0, 0) := rfl
theorem f44_41 : gFetch 44 41 = some (.ireturn, 1, 0, 0) := rfl
theorem f45_0 : gFetch 45 0 = some (.aload_n 0, 1, 0, 0) := rfl
theorem f45_1 : gFetch 45 1 = some (.iload_n 1, 1, 0, 0) := rfl
theorem f45_2 : gFetch 45 2 = some (.iload_n 2, 1, 0, 0) := rfl
theorem f45_3 : gFetch 45 3 = some (.iload_n 3, 1, 0, 0) := rfl
theorem f45_4 : gFetch 45 4 = some (.invokevirtual 330, 3, 89, 4) := rfl
theorem f45_7 : gFetch 45 7 = some (.getfield 302, 3, 8, 2) := rfl
theorem f45_10 : gFetch 45 10 = some (.invokevirtual 45, 3, 173, 1) := rfl
theorem f45_13 : gFetch 45 13 = some (.ireturn, 1, 0, 0) := rfl
theorem f46_0 : gFetch 46 0 = some (.aload_n 0, 1, 0, 0) := rfl
theorem f46_1 : gFetch 46 1 = some (.getfield 318, 3, 11, 15) := rfl
theorem f46_4 : gFetch 46 4 = some (.ireturn, 1, 0, 0) := rfl
theorem f47_0 : gFetch 47 0 = some (.iload_n 1, 1, 0, 0) := rfl
theorem f47_1 : gFetch 47 1 = some (.ifCond .lt 14, 3, 15, 0) := rfl
theorem f47_4 : gFetch 47 4 = some (.iload_n 1, 1, 0, 0) := rfl
theorem f47_5 : gFetch 47 5 = some (.aload_n 0, 1, 0, 0) := rfl
theorem f47_6 : gFetch 47 6 = some (.getfield 10, 3, 11, 0) := rfl
theorem f47_9 : gFetch 47 9 = some (.invokevirtual 45, 3, 173, 1) := rfl
theorem f47_12 : gFetch 47 12 = some (.if_icmp .lt 14, 3, 26, 0) := rfl
theorem f47_15 : gFetch 47 15 = some (.new 195, 3, 1000, 3) := rfl
theorem f47_18 : gFetch 47 18 = some (.dup, 1, 0, 0) := rfl
theorem f47_19 : gFetch 47 19 = some (.ldc_w 546, 3, 999, 0) := rfl
theorem f47_22 : gFetch 47 22 = some (.invokespecial 199, 3, 999, 0) := rfl
theorem f47_25 : gFetch 47 25 = some (.athrow, 1, 0, 0) := rfl
theorem f47_26 : gFetch 47 26 = some (.aload_n 0, 1, 0, 0) := rfl
theorem f47_27 : gFetch 47 27 = some (.getfield 10, 3, 11, 0) := rfl
theorem f47_30 : gFetch 47 30 = some (.iload_n 1, 1, 0, 0) := rfl
theorem f47_31 : gFetch 47 31 = some (.invokevirtual 135, 3, 167, 2) := rfl
theorem f47_34 : gFetch 47 34 = some (.checkcast 54, 3, 4, 0) := rfl
theorem f47_37 : gFetch 47 37 = some (.areturn, 1, 0, 0) := rfl
theorem f48_0 : gFetch 48 0 = some (.aload_n 0, 1, 0, 0) := rfl
theorem f48_1 : gFetch 48 1 = some (.iload_n 1, 1, 0, 0) := rfl
theorem f48_2 : gFetch 48 2 = some (.iload_n 2, 1, 0, 0) := rfl
theorem f48_3 : gFetch 48 3 = some (.iload_n 3, 1, 0, 0) := rfl
theorem f48_4 : gFetch 48 4 = some (.invokevirtual 330, 3, 89, 4) := rfl
theorem f48_7 : gFetch 48 7 = some (.getfield 334, 3, 8, 0) := rfl
theorem f48_10 : gFetch 48 10 = some (.ireturn, 1, 0, 0) := rfl
theorem f49_0 : gFetch 49 0 = some (.aload_n 0, 1, 0, 0) := rfl
theorem f49_1 : gFetch 49 1 = some (.getfield 31, 3, 11, 5) := rfl
theorem f49_4 : gFetch 49 4 = some (.invokevirtual 255, 3, 113, 1) := rfl
theorem f49_7 : gFetch 49 7 = some (.aload_n 0, 1, 0, 0) := rfl
theorem f49_8 : gFetch 49 8 = some (.getfield 16, 3, 11, 1) := rfl
theorem f49_11 : gFetch 49 11 = some (.invokevirtual 45, 3, 173, 1) := rfl
theorem f49_14 : gFetch 49 14 = some (.iconst 1, 1, 0, 0) := rfl
theorem f49_15 : gFetch 49 15 = some (.isub, 1, 0, 0) := rfl
theorem f49_16 : gFetch 49 16 = some (.istore 4, 2, 0, 0) := rfl
theorem f49_18 : gFetch 49 18 = some (.iload 4, 2, 0, 0) := rfl
theorem f49_20 : gFetch 49 20 = some (.ifCond .lt 79, 3, 99, 0) := rfl
theorem f49_23 : gFetch 49 23 = some (.aload_n 0, 1, 0, 0) := rfl
theorem f49_24 : gFetch 49 24 = some (.getfield 31, 3, 11, 5) := rfl
theorem f49_27 : gFetch 49 27 = some (.getfield 258, 3, 5, 1) := rfl
theorem f49_30 : gFetch 49 30 = some (.ifCond .ne 69, 3, 99, 0) := rfl
theorem f49_33 : gFetch 49 33 = some (.aload_n 0, 1, 0, 0) := rfl
theorem f49_34 : gFetch 49 34 = some (.getfield 16, 3, 11, 1) := rfl
theorem f49_37 : gFetch 49 37 = some (.iload 4, 2, 0, 0) := rfl
theorem f49_39 : gFetch 49 39 = some (.invokevirtual 135, 3, 167, 2) := rfl
theorem f49_42 : gFetch 49 42 = some (.checkcast 93, 3, 10, 0) := rfl
theorem f49_45 : gFetch 49 45 = some (.astore 5, 2, 0, 0) := rfl
theorem f49_47 : gFetch 49 47 = some (.aload 5, 2, 0, 0) := rfl
theorem f49_49 : gFetch 49 49 = some (.aload_n 1, 1, 0, 0) := rfl
theorem f49_50 : gFetch 49 50 = some (.invokevirtual 261, 3, 154, 2) := rfl
theorem f49_53 : gFetch 49 53 = some (.ifCond .eq 40, 3, 93, 0) := rfl
theorem f49_56 : gFetch 49 56 = some (.aload 5, 2, 0, 0) := rfl
theorem f49_58 : gFetch 49 58 = some (.getfield 143, 3, 10, 1) := rfl
theorem f49_61 : gFetch 49 61 = some (.getfield 264, 3, 2, 1) := rfl
theorem f49_64 : gFetch 49 64 = some (.iload_n 3, 1, 0, 0) := rfl
theorem f49_65 : gFetch 49 65 = some (.if_icmp .gt 28, 3, 93, 0) := rfl
theorem f49_68 : gFetch 49 68 = some (.aload 5, 2, 0, 0) := rfl
theorem f49_70 : gFetch 49 70 = some (.iload_n 2, 1, 0, 0) := rfl
theorem f49_71 : gFetch 49 71 = some (.invokevirtual 267, 3, 155, 2) := rfl
theorem f49_74 : gFetch 49 74 = some (.ifCond .eq 19, 3, 93, 0) := rfl
theorem f49_77 : gFetch 49 77 = some (.aload_n 0, 1, 0, 0) := rfl
theorem f49_78 : gFetch 49 78 = some (.getfield 31, 3, 11, 5) := rfl
theorem f49_81 : gFetch 49 81 = some (.aload 5, 2, 0, 0) := rfl
theorem f49_83 : gFetch 49 83 = some (.getfield 143, 3, 10, 1) := rfl
theorem f49_86 : gFetch 49 86 = some (.aload_n 1, 1, 0, 0) := rfl
theorem f49_87 : gFetch 49 87 = some (.getfield 270, 3, 4, 1) := rfl
theorem f49_90 : gFetch 49 90 = some (.invokevirtual 274, 3, 115, 3) := rfl
theorem f49_93 : gFetch 49 93 = some (.iinc 4 (-1), 3, 0, 0) := rfl
theorem f49_96 : gFetch 49 96 = some (.goto (-78), 3, 18, 0) := rfl
theorem f49_99 : gFetch 49 99 = some (.return_, 1, 0, 0) := rfl
theorem f50_0 : gFetch 50 0 = some (.aload_n 1, 1, 0, 0) := rfl
theorem f50_1 : gFetch 50 1 = some (.getfield 424, 3, 7, 0) := rfl
theorem f50_4 : gFetch 50 4 = some (.astore_n 2, 1, 0, 0) := rfl
theorem f50_5 : gFetch 50 5 = some (.aload_n 1, 1, 0, 0) := rfl
theorem f50_6 : gFetch 50 6 = some (.invokestatic 442, 3, 66, 1) := rfl
theorem f50_9 : gFetch 50 9 = some (.astore_n 3, 1, 0, 0) := rfl
theorem f50_10 : gFetch 50 10 = some (.aload_n 2, 1, 0, 0) := rfl
theorem f50_11 : gFetch 50 11 = some (.aload_n 1, 1, 0, 0) := rfl
theorem f50_12 : gFetch 50 12 = some (.getfield 425, 3, 7, 1) := rfl
theorem f50_15 : gFetch 50 15 = some (.invokevirtual 107, 3, 108, 2) := rfl
theorem f50_18 : gFetch 50 18 = some (.astore 4, 2, 0, 0) := rfl
theorem f50_20 : gFetch 50 20 = some (.aload_n 2, 1, 0, 0) := rfl
theorem f50_21 : gFetch 50 21 = some (.aload_n 1, 1, 0, 0) := rfl
theorem f50_22 : gFetch 50 22 = some (.getfield 425, 3, 7, 1) := rfl
theorem f50_25 : gFetch 50 25 = some (.iconst 1, 1, 0, 0) := rfl
theorem f50_26 : gFetch 50 26 = some (.iadd, 1, 0, 0) := rfl
theorem f50_27 : gFetch 50 27 = some (.invokevirtual 107, 3, 108, 2) := rfl
theorem f50_30 : gFetch 50 30 = some (.astore 5, 2, 0, 0) := rfl
theorem f50_32 : gFetch 50 32 = some (.aload 4, 2, 0, 0) := rfl
theorem f50_34 : gFetch 50 34 = some (.aload_n 1, 1, 0, 0) := rfl
theorem f50_35 : gFetch 50 35 = some (.getfield 417, 3, 7, 2) := rfl
theorem f50_38 : gFetch 50 38 = some (.invokevirtual 446, 3, 126, 2) := rfl
theorem f50_41 : gFetch 50 41 = some (.aload 5, 2, 0, 0) := rfl
theorem f50_43 : gFetch 50 43 = some (.aload_n 1, 1, 0, 0) := rfl
theorem f50_44 : gFetch 50 44 = some (.getfield 417, 3, 7, 2) := rfl
theorem f50_47 : gFetch 50 47 = some (.invokevirtual 446, 3, 126, 2) := rfl
theorem f50_50 : gFetch 50 50 = some (.aload 4, 2, 0, 0) := rfl
theorem f50_52 : gFetch 50 52 = some (.aload_n 1, 1, 0, 0) := rfl
theorem f50_53 : gFetch 50 53 = some (.getfield 450, 3, 7, 4) := rfl
theorem f50_56 : gFetch 50 56 = some (.putfield 453, 3, 6, 1) := rfl
theorem f50_59 : gFetch 50 59 = some (.iconst 0, 1, 0, 0) := rfl
theorem f50_60 : gFetch 50 60 = some (.istore 6, 2, 0, 0) := rfl
theorem f50_62 : gFetch 50 62 = some (.iconst 0, 1, 0, 0) := rfl
theorem f50_63 : gFetch 50 63 = some (.istore 7, 2, 0, 0) := rfl
theorem f50_65 : gFetch 50 65 = some (.iconst 0, 1, 0, 0) := rfl
theorem f50_66 : gFetch 50 66 = some (.istore 8, 2, 0, 0) := rfl
theorem f50_68 : gFetch 50 68 = some (.iload 8, 2, 0, 0) := rfl
theorem f50_70 : gFetch 50 70 = some (.aload_n 1, 1, 0, 0) := rfl
theorem f50_71 : gFetch 50 71 = some (.getfield 436, 3, 7, 3) := rfl
theorem f50_74 : gFetch 50 74 = some (.invokevirtual 45, 3, 173, 1) := rfl
theorem f50_77 : gFetch 50 77 = some (.if_icmp .gt 180, 3, 257, 0) := rfl
theorem f50_80 : gFetch 50 80 = some (.iload 8, 2, 0, 0) := rfl
theorem f50_82 : gFetch 50 82 = some (.ifCond .eq 15, 3, 97, 0) := rfl
theorem f50_85 : gFetch 50 85 = some (.iload 6, 2, 0, 0) := rfl
theorem f50_87 : gFetch 50 87 = some (.aload_n 1, 1, 0, 0) := rfl
theorem f50_88 : gFetch 50 88 = some (.getfield 436, 3, 7, 3) := rfl
theorem f50_91 : gFetch 50 91 = some (.invokevirtual 45, 3, 173, 1) := rfl
theorem f50_94 : gFetch 50 94 = some (.if_icmp .ge 163, 3, 257, 0) := rfl
theorem f50_97 : gFetch 50 97 = some (.aload_n 1, 1, 0, 0) := rfl
theorem f50_98 : gFetch 50 98 = some (.getfield 436, 3, 7, 3) := rfl
theorem f50_101 : gFetch 50 101 = some (.iload 6, 2, 0, 0) := rfl
theorem f50_103 : gFetch 50 103 = some (.invokestatic 456, 3, 44, 2) := rfl
theorem f50_106 : gFetch 50 106 = some (.istore 9, 2, 0, 0) := rfl
theorem f50_108 : gFetch 50 108 = some (.iload 9, 2, 0, 0) := rfl
theorem f50_110 : gFetch 50 110 = some (.aload_n 1, 1, 0, 0) := rfl
theorem f50_111 : gFetch 50 111 = some (.getfield 436, 3, 7, 3) := rfl
theorem f50_114 : gFetch 50 114 = some (.invokevirtual 45, 3, 173, 1) := rfl
theorem f50_117 : gFetch 50 117 = some (.if_icmp .ge 23, 3, 140, 0) := rfl
theorem f50_120 : gFetch 50 120 = some (.aload_n 1, 1, 0, 0) := rfl
theorem f50_121 : gFetch 50 121 = some (.getfield 436, 3, 7, 3) := rfl
theorem f50_124 : gFetch 50 124 = some (.iload 9, 2, 0, 0) := rfl
theorem f50_126 : gFetch 50 126 = some (.invokevirtual 135, 3, 167, 2) := rfl
theorem f50_129 : gFetch 50 129 = some (.checkcast 95, 3, 2, 0) := rfl
theorem f50_132 : gFetch 50 132 = some (.getfield 383, 3, 2, 2) := rfl
theorem f50_135 : gFetch 50 135 = some (.iconst 1, 1, 0, 0) := rfl
theorem f50_136 : gFetch 50 136 = some (.isub, 1, 0, 0) := rfl
theorem f50_137 : gFetch 50 137 = some (.goto 5, 3, 142, 0) := rfl
theorem f50_140 : gFetch 50 140 = some (.bipush 99, 2, 0, 0) := rfl
theorem f50_142 : gFetch 50 142 = some (.istore 10, 2, 0, 0) := rfl
theorem f50_144 : gFetch 50 144 = some (.new 7, 3, 0, 0) := rfl
theorem f50_147 : gFetch 50 147 = some (.dup, 1, 0, 0) := rfl
theorem f50_148 : gFetch 50 148 = some (.invokespecial 9, 3, 160, 1) := rfl
theorem f50_151 : gFetch 50 151 = some (.astore 11, 2, 0, 0) := rfl
theorem f50_153 : gFetch 50 153 = some (.iload 6, 2, 0, 0) := rfl
theorem f50_155 : gFetch 50 155 = some (.istore 12, 2, 0, 0) := rfl
theorem f50_157 : gFetch 50 157 = some (.iload 12, 2, 0, 0) := rfl
theorem f50_159 : gFetch 50 159 = some (.iload 9, 2, 0, 0) := rfl
theorem f50_161 : gFetch 50 161 = some (.if_icmp .ge 39, 3, 200, 0) := rfl
theorem f50_164 : gFetch 50 164 = some (.iload 12, 2, 0, 0) := rfl
theorem f50_166 : gFetch 50 166 = some (.aload_n 1, 1, 0, 0) := rfl
theorem f50_167 : gFetch 50 167 = some (.getfield 436, 3, 7, 3) := rfl
theorem f50_170 : gFetch 50 170 = some (.invokevirtual 45, 3, 173, 1) := rfl
theorem f50_173 : gFetch 50 173 = some (.if_icmp .ge 27, 3, 200, 0) := rfl
theorem f50_176 : gFetch 50 176 = some (.aload 11, 2, 0, 0) := rfl
theorem f50_178 : gFetch 50 178 = some (.aload_n 1, 1, 0, 0) := rfl
theorem f50_179 : gFetch 50 179 = some (.getfield 436, 3, 7, 3) := rfl
theorem f50_182 : gFetch 50 182 = some (.iload 12, 2, 0, 0) := rfl
theorem f50_184 : gFetch 50 184 = some (.invokevirtual 135, 3, 167, 2) := rfl
theorem f50_187 : gFetch 50 187 = some (.checkcast 95, 3, 2, 0) := rfl
theorem f50_190 : gFetch 50 190 = some (.invokevirtual 59, 3, 162, 2) := rfl
theorem f50_193 : gFetch 50 193 = some (.pop, 1, 0, 0) := rfl
theorem f50_194 : gFetch 50 194 = some (.iinc 12 1, 3, 0, 0) := rfl
theorem f50_197 : gFetch 50 197 = some (.goto (-40), 3, 157, 0) := rfl
theorem f50_200 : gFetch 50 200 = some (.aload_n 3, 1, 0, 0) := rfl
theorem f50_201 : gFetch 50 201 = some (.iload 7, 2, 0, 0) := rfl
theorem f50_203 : gFetch 50 203 = some (.iload 10, 2, 0, 0) := rfl
theorem f50_205 : gFetch 50 205 = some (.invokestatic 460, 3, 80, 3) := rfl
theorem f50_208 : gFetch 50 208 = some (.astore 12, 2, 0, 0) := rfl
theorem f50_210 : gFetch 50 210 = some (.aload 11, 2, 0, 0) := rfl
theorem f50_212 : gFetch 50 212 = some (.invokevirtual 305, 3, 170, 1) := rfl
theorem f50_215 : gFetch 50 215 = some (.ifCond .eq 11, 3, 226, 0) := rfl
theorem f50_218 : gFetch 50 218 = some (.aload 12, 2, 0, 0) := rfl
theorem f50_220 : gFetch 50 220 = some (.invokevirtual 305, 3, 170, 1) := rfl
theorem f50_223 : gFetch 50 223 = some (.ifCond .ne 18, 3, 241, 0) := rfl
theorem f50_226 : gFetch 50 226 = some (.aload 5, 2, 0, 0) := rfl
theorem f50_228 : gFetch 50 228 = some (.aload_n 0, 1, 0, 0) := rfl
theorem f50_229 : gFetch 50 229 = some (.iconst 1, 1, 0, 0) := rfl
theorem f50_230 : gFetch 50 230 = some (.aload 11, 2, 0, 0) := rfl
theorem f50_232 : gFetch 50 232 = some (.aload 12, 2, 0, 0) := rfl
theorem f50_234 : gFetch 50 234 = some (.invokevirtual 111, 3, 74, 4) := rfl
theorem f50_237 : gFetch 50 237 = some (.iconst 0, 1, 0, 0) := rfl
theorem f50_238 : gFetch 50 238 = some (.invokevirtual 115, 3, 121, 3) := rfl
theorem f50_241 : gFetch 50 241 = some (.iload 9, 2, 0, 0) := rfl
theorem f50_243 : gFetch 50 243 = some (.istore 6, 2, 0, 0) := rfl
theorem f50_245 : gFetch 50 245 = some (.iload 10, 2, 0, 0) := rfl
theorem f50_247 : gFetch 50 247 = some (.iconst 1, 1, 0, 0) := rfl
theorem f50_248 : gFetch 50 248 = some (.iadd, 1, 0, 0) := rfl
theorem f50_249 : gFetch 50 249 = some (.istore 7, 2, 0, 0) := rfl
theorem f50_251 : gFetch 50 251 = some (.iinc 8 1, 3, 0, 0) := rfl
theorem f50_254 : gFetch 50 254 = some (.goto (-186), 3, 68, 0) := rfl
theorem f50_257 : gFetch 50 257 = some (.aload_n 0, 1, 0, 0) := rfl
theorem f50_258 : gFetch 50 258 = some (.dup, 1, 0, 0) := rfl
theorem f50_259 : gFetch 50 259 = some (.getfield 121, 3, 11, 12) := rfl
theorem f50_262 : gFetch 50 262 = some (.iconst 1, 1, 0, 0) := rfl
theorem f50_263 : gFetch 50 263 = some (.iadd, 1, 0, 0) := rfl
theorem f50_264 : gFetch 50 264 = some (.putfield 121, 3, 11, 12) := rfl
theorem f50_267 : gFetch 50 267 = some (.aload_n 0, 1, 0, 0) := rfl
theorem f50_268 : gFetch 50 268 = some (.aconst_null, 1, 0, 0) := rfl
theorem f50_269 : gFetch 50 269 = some (.putfield 156, 3, 11, 7) := rfl
theorem f50_272 : gFetch 50 272 = some (.return_, 1, 0, 0) := rfl
theorem f51_0 : gFetch 51 0 = some (.aload_n 0, 1, 0, 0) := rfl
theorem f51_1 : gFetch 51 1 = some (.iload_n 1, 1, 0, 0) := rfl
theorem f51_2 : gFetch 51 2 = some (.invokevirtual 71, 3, 47, 2) := rfl
theorem f51_5 : gFetch 51 5 = some (.astore_n 2, 1, 0, 0) := rfl
theorem f51_6 : gFetch 51 6 = some (.aload_n 0, 1, 0, 0) := rfl
theorem f51_7 : gFetch 51 7 = some (.aload_n 2, 1, 0, 0) := rfl
theorem f51_8 : gFetch 51 8 = some (.invokevirtual 124, 3, 32, 2) := rfl
theorem f51_11 : gFetch 51 11 = some (.ifCond .ne 14, 3, 25, 0) := rfl
theorem f51_14 : gFetch 51 14 = some (.new 49, 3, 1002, 3) := rfl
theorem f51_17 : gFetch 51 17 = some (.dup, 1, 0, 0) := rfl
theorem f51_18 : gFetch 51 18 = some (.ldc_w 324, 3, 999, 0) := rfl
theorem f51_21 : gFetch 51 21 = some (.invokespecial 53, 3, 999, 0) := rfl
theorem f51_24 : gFetch 51 24 = some (.athrow, 1, 0, 0) := rfl
theorem f51_25 : gFetch 51 25 = some (.aload_n 0, 1, 0, 0) := rfl
theorem f51_26 : gFetch 51 26 = some (.aload_n 2, 1, 0, 0) := rfl
theorem f51_27 : gFetch 51 27 = some (.invokevirtual 89, 3, 52, 2) := rfl
theorem f51_30 : gFetch 51 30 = some (.ireturn, 1, 0, 0) := rfl
theorem f52_0 : gFetch 52 0 = some (.new 7, 3, 0, 0) := rfl
theorem f52_3 : gFetch 52 3 = some (.dup, 1, 0, 0) := rfl
theorem f52_4 : gFetch 52 4 = some (.invokespecial 9, 3, 160, 1) := rfl
theorem f52_7 : gFetch 52 7 = some (.astore_n 2, 1, 0, 0) := rfl
theorem f52_8 : gFetch 52 8 = some (.new 7, 3, 0, 0) := rfl
theorem f52_11 : gFetch 52 11 = some (.dup, 1, 0, 0) := rfl
theorem f52_12 : gFetch 52 12 = some (.invokespecial 9, 3, 160, 1) := rfl
theorem f52_15 : gFetch 52 15 = some (.astore_n 3, 1, 0, 0) := rfl
theorem f52_16 : gFetch 52 16 = some (.iconst 0, 1, 0, 0) := rfl
theorem f52_17 : gFetch 52 17 = some (.istore 4, 2, 0, 0) := rfl
theorem f52_19 : gFetch 52 19 = some (.iload 4, 2, 0, 0) := rfl
theorem f52_21 : gFetch 52 21 = some (.aload_n 0, 1, 0, 0) := rfl
theorem f52_22 : gFetch 52 22 = some (.getfield 16, 3, 11, 1) := rfl
theorem f52_25 : gFetch 52 25 = some (.invokevirtual 45, 3, 173, 1) := rfl
theorem f52_28 : gFetch 52 28 = some (.if_icmp .ge 72, 3, 100, 0) := rfl
theorem f52_31 : gFetch 52 31 = some (.aload_n 0, 1, 0, 0) := rfl
theorem f52_32 : gFetch 52 32 = some (.getfield 16, 3, 11, 1) := rfl
theorem f52_35 : gFetch 52 35 = some (.iload 4, 2, 0, 0) := rfl
theorem f52_37 : gFetch 52 37 = some (.invokevirtual 135, 3, 167, 2) := rfl
theorem f52_40 : gFetch 52 40 = some (.checkcast 93, 3, 10, 0) := rfl
theorem f52_43 : gFetch 52 43 = some (.astore 5, 2, 0, 0) := rfl
theorem f52_45 : gFetch 52 45 = some (.aload 5, 2, 0, 0) := rfl
theorem f52_47 : gFetch 52 47 = some (.aload_n 1, 1, 0, 0) := rfl
theorem f52_48 : gFetch 52 48 = some (.invokevirtual 139, 3, 153, 2) := rfl
theorem f52_51 : gFetch 52 51 = some (.ifCond .eq 43, 3, 94, 0) := rfl
theorem f52_54 : gFetch 52 54 = some (.aload 5, 2, 0, 0) := rfl
theorem f52_56 : gFetch 52 56 = some (.iconst 3, 1, 0, 0) := rfl
theorem f52_57 : gFetch 52 57 = some (.putfield 373, 3, 10, 3) := rfl
theorem f52_60 : gFetch 52 60 = some (.aload 5, 2, 0, 0) := rfl
theorem f52_62 : gFetch 52 62 = some (.getfield 143, 3, 10, 1) := rfl
theorem f52_65 : gFetch 52 65 = some (.getfield 376, 3, 2, 0) := rfl
theorem f52_68 : gFetch 52 68 = some (.iconst 3, 1, 0, 0) := rfl
theorem f52_69 : gFetch 52 69 = some (.if_icmp .ne 16, 3, 85, 0) := rfl
theorem f52_72 : gFetch 52 72 = some (.aload_n 3, 1, 0, 0) := rfl
theorem f52_73 : gFetch 52 73 = some (.aload 5, 2, 0, 0) := rfl
theorem f52_75 : gFetch 52 75 = some (.getfield 143, 3, 10, 1) := rfl
theorem f52_78 : gFetch 52 78 = some (.invokevirtual 59, 3, 162, 2) := rfl
theorem f52_81 : gFetch 52 81 = some (.pop, 1, 0, 0) := rfl
theorem f52_82 : gFetch 52 82 = some (.goto 12, 3, 94, 0) := rfl
theorem f52_85 : gFetch 52 85 = some (.aload_n 2, 1, 0, 0) := rfl
theorem f52_86 : gFetch 52 86 = some (.aload 5, 2, 0, 0) := rfl
theorem f52_88 : gFetch 52 88 = some (.getfield 143, 3, 10, 1) := rfl
theorem f52_91 : gFetch 52 91 = some (.invokestatic 379, 3, 20, 2) := rfl
theorem f52_94 : gFetch 52 94 = some (.iinc 4 1, 3, 0, 0) := rfl
theorem f52_97 : gFetch 52 97 = some (.goto (-78), 3, 19, 0) := rfl
theorem f52_100 : gFetch 52 100 = some (.aload_n 0, 1, 0, 0) := rfl
theorem f52_101 : gFetch 52 101 = some (.iconst 0, 1, 0, 0) := rfl
theorem f52_102 : gFetch 52 102 = some (.aload_n 2, 1, 0, 0) := rfl
theorem f52_103 : gFetch 52 103 = some (.aload_n 3, 1, 0, 0) := rfl
theorem f52_104 : gFetch 52 104 = some (.invokevirtual 111, 3, 74, 4) := rfl
theorem f52_107 : gFetch 52 107 = some (.astore 4, 2, 0, 0) := rfl
theorem f52_109 : gFetch 52 109 = some (.aload_n 1, 1, 0, 0) := rfl
theorem f52_110 : gFetch 52 110 = some (.iconst 0, 1, 0, 0) := rfl
theorem f52_111 : gFetch 52 111 = some (.invokevirtual 107, 3, 108, 2) := rfl
theorem f52_114 : gFetch 52 114 = some (.aload 4, 2, 0, 0) := rfl
theorem f52_116 : gFetch 52 116 = some (.iconst 1, 1, 0, 0) := rfl
theorem f52_117 : gFetch 52 117 = some (.invokevirtual 115, 3, 121, 3) := rfl
theorem f52_120 : gFetch 52 120 = some (.aload_n 0, 1, 0, 0) := rfl
theorem f52_121 : gFetch 52 121 = some (.dup, 1, 0, 0) := rfl
theorem f52_122 : gFetch 52 122 = some (.getfield 121, 3, 11, 12) := rfl
theorem f52_125 : gFetch 52 125 = some (.iconst 1, 1, 0, 0) := rfl
theorem f52_126 : gFetch 52 126 = some (.iadd, 1, 0, 0) := rfl
theorem f52_127 : gFetch 52 127 = some (.putfield 121, 3, 11, 12) := rfl
theorem f52_130 : gFetch 52 130 = some (.aload 4, 2, 0, 0) := rfl
theorem f52_132 : gFetch 52 132 = some (.getfield 334, 3, 8, 0) := rfl
theorem f52_135 : gFetch 52 135 = some (.ireturn, 1, 0, 0) := rfl
theorem f53_0 : gFetch 53 0 = some (.aload_n 0, 1, 0, 0) := rfl
theorem f53_1 : gFetch 53 1 = some (.aconst_null, 1, 0, 0) := rfl
theorem f53_2 : gFetch 53 2 = some (.putfield 156, 3, 11, 7) := rfl
theorem f53_5 : gFetch 53 5 = some (.aload_n 0, 1, 0, 0) := rfl
theorem f53_6 : gFetch 53 6 = some (.getfield 19, 3, 11, 2) := rfl
theorem f53_9 : gFetch 53 9 = some (.invokevirtual 295, 3, 164, 1) := rfl
theorem f53_12 : gFetch 53 12 = some (.aload_n 0, 1, 0, 0) := rfl
theorem f53_13 : gFetch 53 13 = some (.getfield 22, 3, 11, 3) := rfl
theorem f53_16 : gFetch 53 16 = some (.invokevirtual 295, 3, 164, 1) := rfl
theorem f53_19 : gFetch 53 19 = some (.return_, 1, 0, 0) := rfl
theorem f54_0 : gFetch 54 0 = some (.aload_n 0, 1, 0, 0) := rfl
theorem f54_1 : gFetch 54 1 = some (.getfield 31, 3, 11, 5) := rfl
theorem f54_4 : gFetch 54 4 = some (.getfield 246, 3, 5, 0) := rfl
theorem f54_7 : gFetch 54 7 = some (.ifCond .ne 13, 3, 20, 0) := rfl
theorem f54_10 : gFetch 54 10 = some (.new 229, 3, 1003, 2) := rfl
theorem f54_13 : gFetch 54 13 = some (.dup, 1, 0, 0) := rfl
theorem f54_14 : gFetch 54 14 = some (.ldc 249, 2, 999, 0) := rfl
theorem f54_16 : gFetch 54 16 = some (.invokespecial 233, 3, 999, 0) := rfl
theorem f54_19 : gFetch 54 19 = some (.athrow, 1, 0, 0) := rfl
theorem f54_20 : gFetch 54 20 = some (.aload_n 0, 1, 0, 0) := rfl
theorem f54_21 : gFetch 54 21 = some (.getfield 31, 3, 11, 5) := rfl
theorem f54_24 : gFetch 54 24 = some (.getfield 251, 3, 5, 2) := rfl
theorem f54_27 : gFetch 54 27 = some (.ireturn, 1, 0, 0) := rfl
theorem f55_0 : gFetch 55 0 = some (.aload_n 0, 1, 0, 0) := rfl
theorem f55_1 : gFetch 55 1 = some (.iload_n 1, 1, 0, 0) := rfl
theorem f55_2 : gFetch 55 2 = some (.invokevirtual 71, 3, 47, 2) := rfl
theorem f55_5 : gFetch 55 5 = some (.astore 4, 2, 0, 0) := rfl
theorem f55_7 : gFetch 55 7 = some (.aload_n 0, 1, 0, 0) := rfl
theorem f55_8 : gFetch 55 8 = some (.iload_n 3, 1, 0, 0) := rfl
theorem f55_9 : gFetch 55 9 = some (.invokevirtual 165, 3, 76, 2) := rfl
theorem f55_12 : gFetch 55 12 = some (.istore 5, 2, 0, 0) := rfl
theorem f55_14 : gFetch 55 14 = some (.iload_n 2, 1, 0, 0) := rfl
theorem f55_15 : gFetch 55 15 = some (.iload_n 2, 1, 0, 0) := rfl
theorem f55_16 : gFetch 55 16 = some (.invokestatic 75, 3, 29, 2) := rfl
theorem f55_19 : gFetch 55 19 = some (.aload_n 0, 1, 0, 0) := rfl
theorem f55_20 : gFetch 55 20 = some (.aload 4, 2, 0, 0) := rfl
theorem f55_22 : gFetch 55 22 = some (.iload_n 2, 1, 0, 0) := rfl
theorem f55_23 : gFetch 55 23 = some (.iload 5, 2, 0, 0) := rfl
theorem f55_25 : gFetch 55 25 = some (.iconst 1, 1, 0, 0) := rfl
theorem f55_26 : gFetch 55 26 = some (.invokevirtual 169, 3, 71, 5) := rfl
theorem f55_29 : gFetch 55 29 = some (.aload_n 0, 1, 0, 0) := rfl
theorem f55_30 : gFetch 55 30 = some (.invokevirtual 173, 3, 54, 1) := rfl
theorem f55_33 : gFetch 55 33 = some (.ireturn, 1, 0, 0) := rfl
theorem f56_0 : gFetch 56 0 = some (.aload_n 0, 1, 0, 0) := rfl
theorem f56_1 : gFetch 56 1 = some (.iload_n 1, 1, 0, 0) := rfl
theorem f56_2 : gFetch 56 2 = some (.invokevirtual 71, 3, 47, 2) := rfl
theorem f56_5 : gFetch 56 5 = some (.astore 4, 2, 0, 0) := rfl
theorem f56_7 : gFetch 56 7 = some (.aload_n 0, 1, 0, 0) := rfl
theorem f56_8 : gFetch 56 8 = some (.iload_n 3, 1, 0, 0) := rfl
theorem f56_9 : gFetch 56 9 = some (.invokevirtual 165, 3, 76, 2) := rfl
theorem f56_12 : gFetch 56 12 = some (.istore 5, 2, 0, 0) := rfl
theorem f56_14 : gFetch 56 14 = some (.iload_n 2, 1, 0, 0) := rfl
theorem f56_15 : gFetch 56 15 = some (.iload_n 2, 1, 0, 0) := rfl
theorem f56_16 : gFetch 56 16 = some (.invokestatic 75, 3, 29, 2) := rfl
theorem f56_19 : gFetch 56 19 = some (.aload_n 0, 1, 0, 0) := rfl
theorem f56_20 : gFetch 56 20 = some (.aload 4, 2, 0, 0) := rfl
theorem f56_22 : gFetch 56 22 = some (.iload_n 2, 1, 0, 0) := rfl
theorem f56_23 : gFetch 56 23 = some (.iload 5, 2, 0, 0) := rfl
theorem f56_25 : gFetch 56 25 = some (.invokevirtual 176, 3, 49, 4) := rfl
theorem f56_28 : gFetch 56 28 = some (.aload_n 0, 1, 0, 0) := rfl
theorem f56_29 : gFetch 56 29 = some (.invokevirtual 173, 3, 54, 1) := rfl
theorem f56_32 : gFetch 56 32 = some (.ireturn, 1, 0, 0) := rfl
theorem f57_0 : gFetch 57 0 = some (.iconst 0, 1, 0, 0) := rfl
theorem f57_1 : gFetch 57 1 = some (.istore_n 2, 1, 0, 0) := rfl
theorem f57_2 : gFetch 57 2 = some (.iload_n 2, 1, 0, 0) := rfl
theorem f57_3 : gFetch 57 3 = some (.bipush 100, 2, 0, 0) := rfl
theorem f57_5 : gFetch 57 5 = some (.if_icmp .ge 82, 3, 87, 0) := rfl
theorem f57_8 : gFetch 57 8 = some (.aload_n 0, 1, 0, 0) := rfl
theorem f57_9 : gFetch 57 9 = some (.aload_n 1, 1, 0, 0) := rfl
theorem f57_10 : gFetch 57 10 = some (.iload_n 2, 1, 0, 0) := rfl
theorem f57_11 : gFetch 57 11 = some (.aload_n 0, 1, 0, 0) := rfl
theorem f57_12 : gFetch 57 12 = some (.getfield 16, 3, 11, 1) := rfl
theorem f57_15 : gFetch 57 15 = some (.invokevirtual 45, 3, 173, 1) := rfl
theorem f57_18 : gFetch 57 18 = some (.iconst 0, 1, 0, 0) := rfl
theorem f57_19 : gFetch 57 19 = some (.invokevirtual 169, 3, 71, 5) := rfl
theorem f57_22 : gFetch 57 22 = some (.aload_n 0, 1, 0, 0) := rfl
theorem f57_23 : gFetch 57 23 = some (.getfield 31, 3, 11, 5) := rfl
theorem f57_26 : gFetch 57 26 = some (.getfield 246, 3, 5, 0) := rfl
theorem f57_29 : gFetch 57 29 = some (.istore_n 3, 1, 0, 0) := rfl
theorem f57_30 : gFetch 57 30 = some (.aload_n 0, 1, 0, 0) := rfl
theorem f57_31 : gFetch 57 31 = some (.getfield 31, 3, 11, 5) := rfl
theorem f57_34 : gFetch 57 34 = some (.getfield 251, 3, 5, 2) := rfl
theorem f57_37 : gFetch 57 37 = some (.istore 4, 2, 0, 0) := rfl
theorem f57_39 : gFetch 57 39 = some (.aload_n 0, 1, 0, 0) := rfl
theorem f57_40 : gFetch 57 40 = some (.aload_n 1, 1, 0, 0) := rfl
theorem f57_41 : gFetch 57 41 = some (.iload_n 2, 1, 0, 0) := rfl
theorem f57_42 : gFetch 57 42 = some (.aload_n 0, 1, 0, 0) := rfl
theorem f57_43 : gFetch 57 43 = some (.getfield 16, 3, 11, 1) := rfl
theorem f57_46 : gFetch 57 46 = some (.invokevirtual 45, 3, 173, 1) := rfl
theorem f57_49 : gFetch 57 49 = some (.invokevirtual 176, 3, 49, 4) := rfl
theorem f57_52 : gFetch 57 52 = some (.iload_n 3, 1, 0, 0) := rfl
theorem f57_53 : gFetch 57 53 = some (.aload_n 0, 1, 0, 0) := rfl
theorem f57_54 : gFetch 57 54 = some (.getfield 31, 3, 11, 5) := rfl
theorem f57_57 : gFetch 57 57 = some (.getfield 246, 3, 5, 0) := rfl
theorem f57_60 : gFetch 57 60 = some (.if_icmp .ne 19, 3, 79, 0) := rfl
theorem f57_63 : gFetch 57 63 = some (.iload_n 3, 1, 0, 0) := rfl
theorem f57_64 : gFetch 57 64 = some (.ifCond .eq 17, 3, 81, 0) := rfl
theorem f57_67 : gFetch 57 67 = some (.iload 4, 2, 0, 0) := rfl
theorem f57_69 : gFetch 57 69 = some (.aload_n 0, 1, 0, 0) := rfl
theorem f57_70 : gFetch 57 70 = some (.getfield 31, 3, 11, 5) := rfl
theorem f57_73 : gFetch 57 73 = some (.getfield 251, 3, 5, 2) := rfl
theorem f57_76 : gFetch 57 76 = some (.if_icmp .eq 5, 3, 81, 0) := rfl
theorem f57_79 : gFetch 57 79 = some (.iconst 0, 1, 0, 0) := rfl
theorem f57_80 : gFetch 57 80 = some (.ireturn, 1, 0, 0) := rfl
theorem f57_81 : gFetch 57 81 = some (.iinc 2 1, 3, 0, 0) := rfl
theorem f57_84 : gFetch 57 84 = some (.goto (-82), 3, 2, 0) := rfl
theorem f57_87 : gFetch 57 87 = some (.iconst 1, 1, 0, 0) := rfl
theorem f57_88 : gFetch 57 88 = some (.ireturn, 1, 0, 0) := rfl
theorem f58_0 : gFetch 58 0 = some (.aload_n 0, 1, 0, 0) := rfl
theorem f58_1 : gFetch 58 1 = some (.aload_n 0, 1, 0, 0) := rfl
theorem f58_2 : gFetch 58 2 = some (.iload_n 1, 1, 0, 0) := rfl
theorem f58_3 : gFetch 58 3 = some (.invokevirtual 71, 3, 47, 2) := rfl
theorem f58_6 : gFetch 58 6 = some (.invokevirtual 124, 3, 32, 2) := rfl
theorem f58_9 : gFetch 58 9 = some (.ireturn, 1, 0, 0) := rfl
theorem f59_0 : gFetch 59 0 = some (.aload_n 1, 1, 0, 0) := rfl
theorem f59_1 : gFetch 59 1 = some (.iload_n 2, 1, 0, 0) := rfl
theorem f59_2 : gFetch 59 2 = some (.invokevirtual 107, 3, 108, 2) := rfl
theorem f59_5 : gFetch 59 5 = some (.iload_n 3, 1, 0, 0) := rfl
theorem f59_6 : gFetch 59 6 = some (.iload 4, 2, 0, 0) := rfl
theorem f59_8 : gFetch 59 8 = some (.invokevirtual 155, 3, 125, 3) := rfl
theorem f59_11 : gFetch 59 11 = some (.ifCond .eq 5, 3, 16, 0) := rfl
theorem f59_14 : gFetch 59 14 = some (.iconst 0, 1, 0, 0) := rfl
theorem f59_15 : gFetch 59 15 = some (.ireturn, 1, 0, 0) := rfl
theorem f59_16 : gFetch 59 16 = some (.aload_n 0, 1, 0, 0) := rfl
theorem f59_17 : gFetch 59 17 = some (.getfield 156, 3, 11, 7) := rfl
theorem f59_20 : gFetch 59 20 = some (.astore 5, 2, 0, 0) := rfl
theorem f59_22 : gFetch 59 22 = some (.aload 5, 2, 0, 0) := rfl
theorem f59_24 : gFetch 59 24 = some (.ifnull 16, 3, 40, 0) := rfl
theorem f59_27 : gFetch 59 27 = some (.aload 5, 2, 0, 0) := rfl
theorem f59_29 : gFetch 59 29 = some (.aload_n 1, 1, 0, 0) := rfl
theorem f59_30 : gFetch 59 30 = some (.iload_n 2, 1, 0, 0) := rfl
theorem f59_31 : gFetch 59 31 = some (.iload_n 3, 1, 0, 0) := rfl
theorem f59_32 : gFetch 59 32 = some (.iload 4, 2, 0, 0) := rfl
theorem f59_34 : gFetch 59 34 = some (.invokevirtual 160, 3, 131, 5) := rfl
theorem f59_37 : gFetch 59 37 = some (.ifCond .ne 7, 3, 44, 0) := rfl
theorem f59_40 : gFetch 59 40 = some (.iconst 1, 1, 0, 0) := rfl
theorem f59_41 : gFetch 59 41 = some (.goto 4, 3, 45, 0) := rfl
theorem f59_44 : gFetch 59 44 = some (.iconst 0, 1, 0, 0) := rfl
theorem f59_45 : gFetch 59 45 = some (.ireturn, 1, 0, 0) := rfl
theorem f60_0 : gFetch 60 0 = some (.iload_n 0, 1, 0, 0) := rfl
theorem f60_1 : gFetch 60 1 = some (.ifCond .lt 13, 3, 14, 0) := rfl
theorem f60_4 : gFetch 60 4 = some (.iload_n 0, 1, 0, 0) := rfl
theorem f60_5 : gFetch 60 5 = some (.bipush 100, 2, 0, 0) := rfl
theorem f60_7 : gFetch 60 7 = some (.if_icmp .ge 7, 3, 14, 0) := rfl
theorem f60_10 : gFetch 60 10 = some (.iconst 1, 1, 0, 0) := rfl
theorem f60_11 : gFetch 60 11 = some (.goto 4, 3, 15, 0) := rfl
theorem f60_14 : gFetch 60 14 = some (.iconst 0, 1, 0, 0) := rfl
theorem f60_15 : gFetch 60 15 = some (.ireturn, 1, 0, 0) := rfl
