theorem f100_0 : gFetch 100 0 = some (.aload_n 0, 1, 0, 0) := rfl
theorem f100_1 : gFetch 100 1 = some (.invokespecial 3, 3, 900, 1) := rfl
theorem f100_4 : gFetch 100 4 = some (.aload_n 0, 1, 0, 0) := rfl
theorem f100_5 : gFetch 100 5 = some (.new 9, 3, 0, 0) := rfl
theorem f100_8 : gFetch 100 8 = some (.dup, 1, 0, 0) := rfl
theorem f100_9 : gFetch 100 9 = some (.invokespecial 11, 3, 160, 1) := rfl
theorem f100_12 : gFetch 100 12 = some (.putfield 12, 3, 1, 0) := rfl
theorem f100_15 : gFetch 100 15 = some (.iconst 0, 1, 0, 0) := rfl
theorem f100_16 : gFetch 100 16 = some (.istore_n 3, 1, 0, 0) := rfl
theorem f100_17 : gFetch 100 17 = some (.iload_n 3, 1, 0, 0) := rfl
theorem f100_18 : gFetch 100 18 = some (.aload_n 1, 1, 0, 0) := rfl
theorem f100_19 : gFetch 100 19 = some (.invokevirtual 18, 3, 173, 1) := rfl
theorem f100_22 : gFetch 100 22 = some (.if_icmp .ge 63, 3, 85, 0) := rfl
theorem f100_25 : gFetch 100 25 = some (.new 22, 3, 4, 0) := rfl
theorem f100_28 : gFetch 100 28 = some (.dup, 1, 0, 0) := rfl
theorem f100_29 : gFetch 100 29 = some (.aload_n 1, 1, 0, 0) := rfl
theorem f100_30 : gFetch 100 30 = some (.iload_n 3, 1, 0, 0) := rfl
theorem f100_31 : gFetch 100 31 = some (.invokevirtual 24, 3, 167, 2) := rfl
theorem f100_34 : gFetch 100 34 = some (.checkcast 22, 3, 4, 0) := rfl
theorem f100_37 : gFetch 100 37 = some (.getfield 28, 3, 4, 0) := rfl
theorem f100_40 : gFetch 100 40 = some (.aload_n 1, 1, 0, 0) := rfl
theorem f100_41 : gFetch 100 41 = some (.iload_n 3, 1, 0, 0) := rfl
theorem f100_42 : gFetch 100 42 = some (.invokevirtual 24, 3, 167, 2) := rfl
theorem f100_45 : gFetch 100 45 = some (.checkcast 22, 3, 4, 0) := rfl
theorem f100_48 : gFetch 100 48 = some (.getfield 32, 3, 4, 1) := rfl
theorem f100_51 : gFetch 100 51 = some (.invokespecial 36, 3, 104, 3) := rfl
theorem f100_54 : gFetch 100 54 = some (.astore 4, 2, 0, 0) := rfl
theorem f100_56 : gFetch 100 56 = some (.aload 4, 2, 0, 0) := rfl
theorem f100_58 : gFetch 100 58 = some (.aload_n 1, 1, 0, 0) := rfl
theorem f100_59 : gFetch 100 59 = some (.iload_n 3, 1, 0, 0) := rfl
theorem f100_60 : gFetch 100 60 = some (.invokevirtual 24, 3, 167, 2) := rfl
theorem f100_63 : gFetch 100 63 = some (.checkcast 22, 3, 4, 0) := rfl
theorem f100_66 : gFetch 100 66 = some (.invokevirtual 39, 3, 105, 2) := rfl
theorem f100_69 : gFetch 100 69 = some (.aload_n 0, 1, 0, 0) := rfl
theorem f100_70 : gFetch 100 70 = some (.getfield 12, 3, 1, 0) := rfl
theorem f100_73 : gFetch 100 73 = some (.aload 4, 2, 0, 0) := rfl
theorem f100_75 : gFetch 100 75 = some (.invokevirtual 43, 3, 162, 2) := rfl
theorem f100_78 : gFetch 100 78 = some (.pop, 1, 0, 0) := rfl
theorem f100_79 : gFetch 100 79 = some (.iinc 3 1, 3, 0, 0) := rfl
theorem f100_82 : gFetch 100 82 = some (.goto (-65), 3, 17, 0) := rfl
theorem f100_85 : gFetch 100 85 = some (.aload_n 0, 1, 0, 0) := rfl
theorem f100_86 : gFetch 100 86 = some (.aload_n 2, 1, 0, 0) := rfl
theorem f100_87 : gFetch 100 87 = some (.invokevirtual 18, 3, 173, 1) := rfl
theorem f100_90 : gFetch 100 90 = some (.newarray .int, 2, 0, 0) := rfl
theorem f100_92 : gFetch 100 92 = some (.putfield 47, 3, 1, 1) := rfl
theorem f100_95 : gFetch 100 95 = some (.iconst 0, 1, 0, 0) := rfl
theorem f100_96 : gFetch 100 96 = some (.istore_n 3, 1, 0, 0) := rfl
theorem f100_97 : gFetch 100 97 = some (.iload_n 3, 1, 0, 0) := rfl
theorem f100_98 : gFetch 100 98 = some (.aload_n 0, 1, 0, 0) := rfl
theorem f100_99 : gFetch 100 99 = some (.getfield 47, 3, 1, 1) := rfl
theorem f100_102 : gFetch 100 102 = some (.arraylength, 1, 0, 0) := rfl
theorem f100_103 : gFetch 100 103 = some (.if_icmp .ge 48, 3, 151, 0) := rfl
theorem f100_106 : gFetch 100 106 = some (.iload_n 3, 1, 0, 0) := rfl
theorem f100_107 : gFetch 100 107 = some (.aload_n 2, 1, 0, 0) := rfl
theorem f100_108 : gFetch 100 108 = some (.invokevirtual 18, 3, 173, 1) := rfl
theorem f100_111 : gFetch 100 111 = some (.if_icmp .ge 40, 3, 151, 0) := rfl
theorem f100_114 : gFetch 100 114 = some (.aload_n 2, 1, 0, 0) := rfl
theorem f100_115 : gFetch 100 115 = some (.iload_n 3, 1, 0, 0) := rfl
theorem f100_116 : gFetch 100 116 = some (.invokevirtual 24, 3, 167, 2) := rfl
theorem f100_119 : gFetch 100 119 = some (.checkcast 51, 3, 10, 0) := rfl
theorem f100_122 : gFetch 100 122 = some (.getfield 53, 3, 10, 3) := rfl
theorem f100_125 : gFetch 100 125 = some (.istore 4, 2, 0, 0) := rfl
theorem f100_127 : gFetch 100 127 = some (.aload_n 0, 1, 0, 0) := rfl
theorem f100_128 : gFetch 100 128 = some (.getfield 47, 3, 1, 1) := rfl
theorem f100_131 : gFetch 100 131 = some (.iload_n 3, 1, 0, 0) := rfl
theorem f100_132 : gFetch 100 132 = some (.iload 4, 2, 0, 0) := rfl
theorem f100_134 : gFetch 100 134 = some (.iconst 1, 1, 0, 0) := rfl
theorem f100_135 : gFetch 100 135 = some (.if_icmp .ne 7, 3, 142, 0) := rfl
theorem f100_138 : gFetch 100 138 = some (.iconst 0, 1, 0, 0) := rfl
theorem f100_139 : gFetch 100 139 = some (.goto 5, 3, 144, 0) := rfl
theorem f100_142 : gFetch 100 142 = some (.iload 4, 2, 0, 0) := rfl
theorem f100_144 : gFetch 100 144 = some (.iastore, 1, 0, 0) := rfl
theorem f100_145 : gFetch 100 145 = some (.iinc 3 1, 3, 0, 0) := rfl
theorem f100_148 : gFetch 100 148 = some (.goto (-51), 3, 97, 0) := rfl
theorem f100_151 : gFetch 100 151 = some (.return_, 1, 0, 0) := rfl
theorem f101_0 : gFetch 101 0 = some (.aload_n 0, 1, 0, 0) := rfl
theorem f101_1 : gFetch 101 1 = some (.invokespecial 1, 3, 900, 1) := rfl
theorem f101_4 : gFetch 101 4 = some (.aload_n 0, 1, 0, 0) := rfl
theorem f101_5 : gFetch 101 5 = some (.iload_n 1, 1, 0, 0) := rfl
theorem f101_6 : gFetch 101 6 = some (.putfield 7, 3, 2, 0) := rfl
theorem f101_9 : gFetch 101 9 = some (.aload_n 0, 1, 0, 0) := rfl
theorem f101_10 : gFetch 101 10 = some (.iload_n 2, 1, 0, 0) := rfl
theorem f101_11 : gFetch 101 11 = some (.putfield 13, 3, 2, 1) := rfl
theorem f101_14 : gFetch 101 14 = some (.aload_n 0, 1, 0, 0) := rfl
theorem f101_15 : gFetch 101 15 = some (.iload_n 3, 1, 0, 0) := rfl
theorem f101_16 : gFetch 101 16 = some (.putfield 16, 3, 2, 2) := rfl
theorem f101_19 : gFetch 101 19 = some (.aload_n 0, 1, 0, 0) := rfl
theorem f101_20 : gFetch 101 20 = some (.iload 4, 2, 0, 0) := rfl
theorem f101_22 : gFetch 101 22 = some (.putfield 19, 3, 2, 3) := rfl
theorem f101_25 : gFetch 101 25 = some (.aload_n 0, 1, 0, 0) := rfl
theorem f101_26 : gFetch 101 26 = some (.iload 5, 2, 0, 0) := rfl
theorem f101_28 : gFetch 101 28 = some (.putfield 22, 3, 2, 4) := rfl
theorem f101_31 : gFetch 101 31 = some (.return_, 1, 0, 0) := rfl
theorem f102_0 : gFetch 102 0 = some (.aload_n 0, 1, 0, 0) := rfl
theorem f102_1 : gFetch 102 1 = some (.getfield 16, 3, 2, 2) := rfl
theorem f102_4 : gFetch 102 4 = some (.iload_n 2, 1, 0, 0) := rfl
theorem f102_5 : gFetch 102 5 = some (.if_icmp .gt 15, 3, 20, 0) := rfl
theorem f102_8 : gFetch 102 8 = some (.iload_n 1, 1, 0, 0) := rfl
theorem f102_9 : gFetch 102 9 = some (.aload_n 0, 1, 0, 0) := rfl
theorem f102_10 : gFetch 102 10 = some (.getfield 19, 3, 2, 3) := rfl
theorem f102_13 : gFetch 102 13 = some (.if_icmp .gt 7, 3, 20, 0) := rfl
theorem f102_16 : gFetch 102 16 = some (.iconst 1, 1, 0, 0) := rfl
theorem f102_17 : gFetch 102 17 = some (.goto 4, 3, 21, 0) := rfl
theorem f102_20 : gFetch 102 20 = some (.iconst 0, 1, 0, 0) := rfl
theorem f102_21 : gFetch 102 21 = some (.ireturn, 1, 0, 0) := rfl
theorem f103_0 : gFetch 103 0 = some (.aload_n 0, 1, 0, 0) := rfl
theorem f103_1 : gFetch 103 1 = some (.invokespecial 3, 3, 900, 1) := rfl
theorem f103_4 : gFetch 103 4 = some (.aload_n 0, 1, 0, 0) := rfl
theorem f103_5 : gFetch 103 5 = some (.iconst (-1), 1, 0, 0) := rfl
theorem f103_6 : gFetch 103 6 = some (.putfield 9, 3, 3, 3) := rfl
theorem f103_9 : gFetch 103 9 = some (.aload_n 0, 1, 0, 0) := rfl
theorem f103_10 : gFetch 103 10 = some (.iload_n 1, 1, 0, 0) := rfl
theorem f103_11 : gFetch 103 11 = some (.putfield 15, 3, 3, 0) := rfl
theorem f103_14 : gFetch 103 14 = some (.aload_n 0, 1, 0, 0) := rfl
theorem f103_15 : gFetch 103 15 = some (.aload_n 2, 1, 0, 0) := rfl
theorem f103_16 : gFetch 103 16 = some (.putfield 18, 3, 3, 1) := rfl
theorem f103_19 : gFetch 103 19 = some (.aload_n 0, 1, 0, 0) := rfl
theorem f103_20 : gFetch 103 20 = some (.iload_n 3, 1, 0, 0) := rfl
theorem f103_21 : gFetch 103 21 = some (.putfield 22, 3, 3, 2) := rfl
theorem f103_24 : gFetch 103 24 = some (.return_, 1, 0, 0) := rfl
theorem f104_0 : gFetch 104 0 = some (.aload_n 0, 1, 0, 0) := rfl
theorem f104_1 : gFetch 104 1 = some (.invokespecial 3, 3, 900, 1) := rfl
theorem f104_4 : gFetch 104 4 = some (.aload_n 0, 1, 0, 0) := rfl
theorem f104_5 : gFetch 104 5 = some (.iconst 4, 1, 0, 0) := rfl
theorem f104_6 : gFetch 104 6 = some (.anewarray 9, 3, 1, 0) := rfl
theorem f104_9 : gFetch 104 9 = some (.putfield 11, 3, 4, 2) := rfl
theorem f104_12 : gFetch 104 12 = some (.aload_n 0, 1, 0, 0) := rfl
theorem f104_13 : gFetch 104 13 = some (.iload_n 1, 1, 0, 0) := rfl
theorem f104_14 : gFetch 104 14 = some (.putfield 17, 3, 4, 0) := rfl
theorem f104_17 : gFetch 104 17 = some (.aload_n 0, 1, 0, 0) := rfl
theorem f104_18 : gFetch 104 18 = some (.iload_n 2, 1, 0, 0) := rfl
theorem f104_19 : gFetch 104 19 = some (.putfield 21, 3, 4, 1) := rfl
theorem f104_22 : gFetch 104 22 = some (.iconst 0, 1, 0, 0) := rfl
theorem f104_23 : gFetch 104 23 = some (.istore_n 3, 1, 0, 0) := rfl
theorem f104_24 : gFetch 104 24 = some (.iload_n 3, 1, 0, 0) := rfl
theorem f104_25 : gFetch 104 25 = some (.aload_n 0, 1, 0, 0) := rfl
theorem f104_26 : gFetch 104 26 = some (.getfield 11, 3, 4, 2) := rfl
theorem f104_29 : gFetch 104 29 = some (.arraylength, 1, 0, 0) := rfl
theorem f104_30 : gFetch 104 30 = some (.if_icmp .ge 22, 3, 52, 0) := rfl
theorem f104_33 : gFetch 104 33 = some (.aload_n 0, 1, 0, 0) := rfl
theorem f104_34 : gFetch 104 34 = some (.getfield 11, 3, 4, 2) := rfl
theorem f104_37 : gFetch 104 37 = some (.iload_n 3, 1, 0, 0) := rfl
theorem f104_38 : gFetch 104 38 = some (.new 9, 3, 6, 0) := rfl
theorem f104_41 : gFetch 104 41 = some (.dup, 1, 0, 0) := rfl
theorem f104_42 : gFetch 104 42 = some (.invokespecial 25, 3, 117, 1) := rfl
theorem f104_45 : gFetch 104 45 = some (.aastore, 1, 0, 0) := rfl
theorem f104_46 : gFetch 104 46 = some (.iinc 3 1, 3, 0, 0) := rfl
theorem f104_49 : gFetch 104 49 = some (.goto (-25), 3, 24, 0) := rfl
theorem f104_52 : gFetch 104 52 = some (.return_, 1, 0, 0) := rfl
theorem f105_0 : gFetch 105 0 = some (.iconst 0, 1, 0, 0) := rfl
theorem f105_1 : gFetch 105 1 = some (.istore_n 2, 1, 0, 0) := rfl
theorem f105_2 : gFetch 105 2 = some (.iload_n 2, 1, 0, 0) := rfl
theorem f105_3 : gFetch 105 3 = some (.aload_n 0, 1, 0, 0) := rfl
theorem f105_4 : gFetch 105 4 = some (.getfield 11, 3, 4, 2) := rfl
theorem f105_7 : gFetch 105 7 = some (.arraylength, 1, 0, 0) := rfl
theorem f105_8 : gFetch 105 8 = some (.if_icmp .ge 23, 3, 31, 0) := rfl
theorem f105_11 : gFetch 105 11 = some (.aload_n 0, 1, 0, 0) := rfl
theorem f105_12 : gFetch 105 12 = some (.getfield 11, 3, 4, 2) := rfl
theorem f105_15 : gFetch 105 15 = some (.iload_n 2, 1, 0, 0) := rfl
theorem f105_16 : gFetch 105 16 = some (.aaload, 1, 0, 0) := rfl
theorem f105_17 : gFetch 105 17 = some (.aload_n 1, 1, 0, 0) := rfl
theorem f105_18 : gFetch 105 18 = some (.iload_n 2, 1, 0, 0) := rfl
theorem f105_19 : gFetch 105 19 = some (.invokevirtual 35, 3, 108, 2) := rfl
theorem f105_22 : gFetch 105 22 = some (.invokevirtual 39, 3, 118, 2) := rfl
theorem f105_25 : gFetch 105 25 = some (.iinc 2 1, 3, 0, 0) := rfl
theorem f105_28 : gFetch 105 28 = some (.goto (-26), 3, 2, 0) := rfl
theorem f105_31 : gFetch 105 31 = some (.return_, 1, 0, 0) := rfl
theorem f106_0 : gFetch 106 0 = some (.iconst 0, 1, 0, 0) := rfl
theorem f106_1 : gFetch 106 1 = some (.istore_n 1, 1, 0, 0) := rfl
theorem f106_2 : gFetch 106 2 = some (.iconst 0, 1, 0, 0) := rfl
theorem f106_3 : gFetch 106 3 = some (.istore_n 2, 1, 0, 0) := rfl
theorem f106_4 : gFetch 106 4 = some (.iload_n 2, 1, 0, 0) := rfl
theorem f106_5 : gFetch 106 5 = some (.aload_n 0, 1, 0, 0) := rfl
theorem f106_6 : gFetch 106 6 = some (.getfield 11, 3, 4, 2) := rfl
theorem f106_9 : gFetch 106 9 = some (.arraylength, 1, 0, 0) := rfl
theorem f106_10 : gFetch 106 10 = some (.if_icmp .ge 21, 3, 31, 0) := rfl
theorem f106_13 : gFetch 106 13 = some (.iload_n 1, 1, 0, 0) := rfl
theorem f106_14 : gFetch 106 14 = some (.aload_n 0, 1, 0, 0) := rfl
theorem f106_15 : gFetch 106 15 = some (.getfield 11, 3, 4, 2) := rfl
theorem f106_18 : gFetch 106 18 = some (.iload_n 2, 1, 0, 0) := rfl
theorem f106_19 : gFetch 106 19 = some (.aaload, 1, 0, 0) := rfl
theorem f106_20 : gFetch 106 20 = some (.invokevirtual 43, 3, 119, 1) := rfl
theorem f106_23 : gFetch 106 23 = some (.iadd, 1, 0, 0) := rfl
theorem f106_24 : gFetch 106 24 = some (.istore_n 1, 1, 0, 0) := rfl
theorem f106_25 : gFetch 106 25 = some (.iinc 2 1, 3, 0, 0) := rfl
theorem f106_28 : gFetch 106 28 = some (.goto (-24), 3, 4, 0) := rfl
theorem f106_31 : gFetch 106 31 = some (.iload_n 1, 1, 0, 0) := rfl
theorem f106_32 : gFetch 106 32 = some (.ireturn, 1, 0, 0) := rfl
theorem f107_0 : gFetch 107 0 = some (.iconst 0, 1, 0, 0) := rfl
theorem f107_1 : gFetch 107 1 = some (.istore_n 2, 1, 0, 0) := rfl
theorem f107_2 : gFetch 107 2 = some (.iconst 0, 1, 0, 0) := rfl
theorem f107_3 : gFetch 107 3 = some (.istore_n 3, 1, 0, 0) := rfl
theorem f107_4 : gFetch 107 4 = some (.iload_n 3, 1, 0, 0) := rfl
theorem f107_5 : gFetch 107 5 = some (.aload_n 0, 1, 0, 0) := rfl
theorem f107_6 : gFetch 107 6 = some (.getfield 11, 3, 4, 2) := rfl
theorem f107_9 : gFetch 107 9 = some (.arraylength, 1, 0, 0) := rfl
theorem f107_10 : gFetch 107 10 = some (.if_icmp .ge 59, 3, 69, 0) := rfl
theorem f107_13 : gFetch 107 13 = some (.iconst 0, 1, 0, 0) := rfl
theorem f107_14 : gFetch 107 14 = some (.istore 4, 2, 0, 0) := rfl
theorem f107_16 : gFetch 107 16 = some (.iload 4, 2, 0, 0) := rfl
theorem f107_18 : gFetch 107 18 = some (.aload_n 0, 1, 0, 0) := rfl
theorem f107_19 : gFetch 107 19 = some (.getfield 11, 3, 4, 2) := rfl
theorem f107_22 : gFetch 107 22 = some (.iload_n 3, 1, 0, 0) := rfl
theorem f107_23 : gFetch 107 23 = some (.aaload, 1, 0, 0) := rfl
theorem f107_24 : gFetch 107 24 = some (.invokevirtual 43, 3, 119, 1) := rfl
theorem f107_27 : gFetch 107 27 = some (.if_icmp .ge 36, 3, 63, 0) := rfl
theorem f107_30 : gFetch 107 30 = some (.aload_n 1, 1, 0, 0) := rfl
theorem f107_31 : gFetch 107 31 = some (.aload_n 0, 1, 0, 0) := rfl
theorem f107_32 : gFetch 107 32 = some (.getfield 11, 3, 4, 2) := rfl
theorem f107_35 : gFetch 107 35 = some (.iload_n 3, 1, 0, 0) := rfl
theorem f107_36 : gFetch 107 36 = some (.aaload, 1, 0, 0) := rfl
theorem f107_37 : gFetch 107 37 = some (.getfield 47, 3, 6, 0) := rfl
theorem f107_40 : gFetch 107 40 = some (.iload 4, 2, 0, 0) := rfl
theorem f107_42 : gFetch 107 42 = some (.invokevirtual 51, 3, 167, 2) := rfl
theorem f107_45 : gFetch 107 45 = some (.checkcast 57, 3, 8, 0) := rfl
theorem f107_48 : gFetch 107 48 = some (.invokevirtual 59, 3, 109, 2) := rfl
theorem f107_51 : gFetch 107 51 = some (.ifCond .eq 6, 3, 57, 0) := rfl
theorem f107_54 : gFetch 107 54 = some (.iinc 2 1, 3, 0, 0) := rfl
theorem f107_57 : gFetch 107 57 = some (.iinc 4 1, 3, 0, 0) := rfl
theorem f107_60 : gFetch 107 60 = some (.goto (-44), 3, 16, 0) := rfl
theorem f107_63 : gFetch 107 63 = some (.iinc 3 1, 3, 0, 0) := rfl
theorem f107_66 : gFetch 107 66 = some (.goto (-62), 3, 4, 0) := rfl
theorem f107_69 : gFetch 107 69 = some (.iload_n 2, 1, 0, 0) := rfl
theorem f107_70 : gFetch 107 70 = some (.ireturn, 1, 0, 0) := rfl
theorem f108_0 : gFetch 108 0 = some (.aload_n 0, 1, 0, 0) := rfl
theorem f108_1 : gFetch 108 1 = some (.getfield 11, 3, 4, 2) := rfl
theorem f108_4 : gFetch 108 4 = some (.iconst 0, 1, 0, 0) := rfl
theorem f108_5 : gFetch 108 5 = some (.iload_n 1, 1, 0, 0) := rfl
theorem f108_6 : gFetch 108 6 = some (.aload_n 0, 1, 0, 0) := rfl
theorem f108_7 : gFetch 108 7 = some (.getfield 11, 3, 4, 2) := rfl
theorem f108_10 : gFetch 108 10 = some (.arraylength, 1, 0, 0) := rfl
theorem f108_11 : gFetch 108 11 = some (.iconst 1, 1, 0, 0) := rfl
theorem f108_12 : gFetch 108 12 = some (.isub, 1, 0, 0) := rfl
theorem f108_13 : gFetch 108 13 = some (.invokestatic 26, 3, 157, 2) := rfl
theorem f108_16 : gFetch 108 16 = some (.invokestatic 32, 3, 156, 2) := rfl
theorem f108_19 : gFetch 108 19 = some (.aaload, 1, 0, 0) := rfl
theorem f108_20 : gFetch 108 20 = some (.areturn, 1, 0, 0) := rfl
theorem f109_0 : gFetch 109 0 = some (.iconst 0, 1, 0, 0) := rfl
theorem f109_1 : gFetch 109 1 = some (.istore_n 2, 1, 0, 0) := rfl
theorem f109_2 : gFetch 109 2 = some (.iload_n 2, 1, 0, 0) := rfl
theorem f109_3 : gFetch 109 3 = some (.aload_n 0, 1, 0, 0) := rfl
theorem f109_4 : gFetch 109 4 = some (.getfield 11, 3, 4, 2) := rfl
theorem f109_7 : gFetch 109 7 = some (.arraylength, 1, 0, 0) := rfl
theorem f109_8 : gFetch 109 8 = some (.if_icmp .ge 24, 3, 32, 0) := rfl
theorem f109_11 : gFetch 109 11 = some (.aload_n 0, 1, 0, 0) := rfl
theorem f109_12 : gFetch 109 12 = some (.getfield 11, 3, 4, 2) := rfl
theorem f109_15 : gFetch 109 15 = some (.iload_n 2, 1, 0, 0) := rfl
theorem f109_16 : gFetch 109 16 = some (.aaload, 1, 0, 0) := rfl
theorem f109_17 : gFetch 109 17 = some (.aload_n 1, 1, 0, 0) := rfl
theorem f109_18 : gFetch 109 18 = some (.invokevirtual 63, 3, 120, 2) := rfl
theorem f109_21 : gFetch 109 21 = some (.ifCond .eq 5, 3, 26, 0) := rfl
theorem f109_24 : gFetch 109 24 = some (.iconst 1, 1, 0, 0) := rfl
theorem f109_25 : gFetch 109 25 = some (.ireturn, 1, 0, 0) := rfl
theorem f109_26 : gFetch 109 26 = some (.iinc 2 1, 3, 0, 0) := rfl
theorem f109_29 : gFetch 109 29 = some (.goto (-27), 3, 2, 0) := rfl
theorem f109_32 : gFetch 109 32 = some (.iconst 0, 1, 0, 0) := rfl
theorem f109_33 : gFetch 109 33 = some (.ireturn, 1, 0, 0) := rfl
theorem f110_0 : gFetch 110 0 = some (.iconst 0, 1, 0, 0) := rfl
theorem f110_1 : gFetch 110 1 = some (.istore_n 1, 1, 0, 0) := rfl
theorem f110_2 : gFetch 110 2 = some (.iload_n 1, 1, 0, 0) := rfl
theorem f110_3 : gFetch 110 3 = some (.aload_n 0, 1, 0, 0) := rfl
theorem f110_4 : gFetch 110 4 = some (.getfield 11, 3, 4, 2) := rfl
theorem f110_7 : gFetch 110 7 = some (.arraylength, 1, 0, 0) := rfl
theorem f110_8 : gFetch 110 8 = some (.if_icmp .ge 39, 3, 47, 0) := rfl
theorem f110_11 : gFetch 110 11 = some (.aload_n 0, 1, 0, 0) := rfl
theorem f110_12 : gFetch 110 12 = some (.getfield 11, 3, 4, 2) := rfl
theorem f110_15 : gFetch 110 15 = some (.iload_n 1, 1, 0, 0) := rfl
theorem f110_16 : gFetch 110 16 = some (.aaload, 1, 0, 0) := rfl
theorem f110_17 : gFetch 110 17 = some (.invokevirtual 70, 3, 123, 1) := rfl
theorem f110_20 : gFetch 110 20 = some (.ifCond .eq 19, 3, 39, 0) := rfl
theorem f110_23 : gFetch 110 23 = some (.iload_n 1, 1, 0, 0) := rfl
theorem f110_24 : gFetch 110 24 = some (.ifCond .le 17, 3, 41, 0) := rfl
theorem f110_27 : gFetch 110 27 = some (.aload_n 0, 1, 0, 0) := rfl
theorem f110_28 : gFetch 110 28 = some (.getfield 11, 3, 4, 2) := rfl
theorem f110_31 : gFetch 110 31 = some (.iload_n 1, 1, 0, 0) := rfl
theorem f110_32 : gFetch 110 32 = some (.aaload, 1, 0, 0) := rfl
theorem f110_33 : gFetch 110 33 = some (.invokevirtual 74, 3, 124, 1) := rfl
theorem f110_36 : gFetch 110 36 = some (.ifCond .ne 5, 3, 41, 0) := rfl
theorem f110_39 : gFetch 110 39 = some (.iconst 0, 1, 0, 0) := rfl
theorem f110_40 : gFetch 110 40 = some (.ireturn, 1, 0, 0) := rfl
theorem f110_41 : gFetch 110 41 = some (.iinc 1 1, 3, 0, 0) := rfl
theorem f110_44 : gFetch 110 44 = some (.goto (-42), 3, 2, 0) := rfl
theorem f110_47 : gFetch 110 47 = some (.iconst 1, 1, 0, 0) := rfl
theorem f110_48 : gFetch 110 48 = some (.ireturn, 1, 0, 0) := rfl
theorem f111_0 : gFetch 111 0 = some (.iconst 1, 1, 0, 0) := rfl
theorem f111_1 : gFetch 111 1 = some (.istore 4, 2, 0, 0) := rfl
theorem f111_3 : gFetch 111 3 = some (.iload 4, 2, 0, 0) := rfl
theorem f111_5 : gFetch 111 5 = some (.aload_n 0, 1, 0, 0) := rfl
theorem f111_6 : gFetch 111 6 = some (.getfield 11, 3, 4, 2) := rfl
theorem f111_9 : gFetch 111 9 = some (.arraylength, 1, 0, 0) := rfl
theorem f111_10 : gFetch 111 10 = some (.if_icmp .ge 32, 3, 42, 0) := rfl
theorem f111_13 : gFetch 111 13 = some (.iload 4, 2, 0, 0) := rfl
theorem f111_15 : gFetch 111 15 = some (.iload_n 1, 1, 0, 0) := rfl
theorem f111_16 : gFetch 111 16 = some (.if_icmp .le 20, 3, 36, 0) := rfl
theorem f111_19 : gFetch 111 19 = some (.aload_n 0, 1, 0, 0) := rfl
theorem f111_20 : gFetch 111 20 = some (.getfield 11, 3, 4, 2) := rfl
theorem f111_23 : gFetch 111 23 = some (.iload 4, 2, 0, 0) := rfl
theorem f111_25 : gFetch 111 25 = some (.aaload, 1, 0, 0) := rfl
theorem f111_26 : gFetch 111 26 = some (.iload_n 2, 1, 0, 0) := rfl
theorem f111_27 : gFetch 111 27 = some (.iload_n 3, 1, 0, 0) := rfl
theorem f111_28 : gFetch 111 28 = some (.invokevirtual 66, 3, 125, 3) := rfl
theorem f111_31 : gFetch 111 31 = some (.ifCond .eq 5, 3, 36, 0) := rfl
theorem f111_34 : gFetch 111 34 = some (.iconst 1, 1, 0, 0) := rfl
theorem f111_35 : gFetch 111 35 = some (.ireturn, 1, 0, 0) := rfl
theorem f111_36 : gFetch 111 36 = some (.iinc 4 1, 3, 0, 0) := rfl
theorem f111_39 : gFetch 111 39 = some (.goto (-36), 3, 3, 0) := rfl
theorem f111_42 : gFetch 111 42 = some (.iconst 0, 1, 0, 0) := rfl
theorem f111_43 : gFetch 111 43 = some (.ireturn, 1, 0, 0) := rfl
theorem f112_0 : gFetch 112 0 = some (.aload_n 0, 1, 0, 0) := rfl
theorem f112_1 : gFetch 112 1 = some (.invokespecial 3, 3, 900, 1) := rfl
theorem f112_4 : gFetch 112 4 = some (.return_, 1, 0, 0) := rfl
theorem f113_0 : gFetch 113 0 = some (.aload_n 0, 1, 0, 0) := rfl
theorem f113_1 : gFetch 113 1 = some (.iconst 0, 1, 0, 0) := rfl
theorem f113_2 : gFetch 113 2 = some (.putfield 9, 3, 5, 0) := rfl
theorem f113_5 : gFetch 113 5 = some (.aload_n 0, 1, 0, 0) := rfl
theorem f113_6 : gFetch 113 6 = some (.iconst 0, 1, 0, 0) := rfl
theorem f113_7 : gFetch 113 7 = some (.putfield 15, 3, 5, 1) := rfl
theorem f113_10 : gFetch 113 10 = some (.aload_n 0, 1, 0, 0) := rfl
theorem f113_11 : gFetch 113 11 = some (.iconst 0, 1, 0, 0) := rfl
theorem f113_12 : gFetch 113 12 = some (.putfield 18, 3, 5, 2) := rfl
theorem f113_15 : gFetch 113 15 = some (.return_, 1, 0, 0) := rfl
theorem f114_0 : gFetch 114 0 = some (.iload_n 2, 1, 0, 0) := rfl
theorem f114_1 : gFetch 114 1 = some (.bipush 43, 2, 0, 0) := rfl
theorem f114_3 : gFetch 114 3 = some (.if_icmp .ne 7, 3, 10, 0) := rfl
theorem f114_6 : gFetch 114 6 = some (.iload_n 0, 1, 0, 0) := rfl
theorem f114_7 : gFetch 114 7 = some (.iload_n 1, 1, 0, 0) := rfl
theorem f114_8 : gFetch 114 8 = some (.iadd, 1, 0, 0) := rfl
theorem f114_9 : gFetch 114 9 = some (.ireturn, 1, 0, 0) := rfl
theorem f114_10 : gFetch 114 10 = some (.iload_n 2, 1, 0, 0) := rfl
theorem f114_11 : gFetch 114 11 = some (.bipush 62, 2, 0, 0) := rfl
theorem f114_13 : gFetch 114 13 = some (.if_icmp .ne 16, 3, 29, 0) := rfl
theorem f114_16 : gFetch 114 16 = some (.iload_n 1, 1, 0, 0) := rfl
theorem f114_17 : gFetch 114 17 = some (.iload_n 0, 1, 0, 0) := rfl
theorem f114_18 : gFetch 114 18 = some (.if_icmp .le 7, 3, 25, 0) := rfl
theorem f114_21 : gFetch 114 21 = some (.iconst 1, 1, 0, 0) := rfl
theorem f114_22 : gFetch 114 22 = some (.goto 17, 3, 39, 0) := rfl
theorem f114_25 : gFetch 114 25 = some (.iconst 0, 1, 0, 0) := rfl
theorem f114_26 : gFetch 114 26 = some (.goto 13, 3, 39, 0) := rfl
theorem f114_29 : gFetch 114 29 = some (.iload_n 1, 1, 0, 0) := rfl
theorem f114_30 : gFetch 114 30 = some (.iload_n 0, 1, 0, 0) := rfl
theorem f114_31 : gFetch 114 31 = some (.if_icmp .ge 7, 3, 38, 0) := rfl
theorem f114_34 : gFetch 114 34 = some (.iconst 1, 1, 0, 0) := rfl
theorem f114_35 : gFetch 114 35 = some (.goto 4, 3, 39, 0) := rfl
theorem f114_38 : gFetch 114 38 = some (.iconst 0, 1, 0, 0) := rfl
theorem f114_39 : gFetch 114 39 = some (.istore_n 3, 1, 0, 0) := rfl
theorem f114_40 : gFetch 114 40 = some (.iload_n 3, 1, 0, 0) := rfl
theorem f114_41 : gFetch 114 41 = some (.ifCond .eq 7, 3, 48, 0) := rfl
theorem f114_44 : gFetch 114 44 = some (.iload_n 1, 1, 0, 0) := rfl
theorem f114_45 : gFetch 114 45 = some (.goto 4, 3, 49, 0) := rfl
theorem f114_48 : gFetch 114 48 = some (.iload_n 0, 1, 0, 0) := rfl
theorem f114_49 : gFetch 114 49 = some (.ireturn, 1, 0, 0) := rfl
theorem f115_0 : gFetch 115 0 = some (.aload_n 1, 1, 0, 0) := rfl
theorem f115_1 : gFetch 115 1 = some (.getfield 22, 3, 2, 0) := rfl
theorem f115_4 : gFetch 115 4 = some (.iconst 1, 1, 0, 0) := rfl
theorem f115_5 : gFetch 115 5 = some (.if_icmp .eq 11, 3, 16, 0) := rfl
theorem f115_8 : gFetch 115 8 = some (.aload_n 1, 1, 0, 0) := rfl
theorem f115_9 : gFetch 115 9 = some (.getfield 22, 3, 2, 0) := rfl
theorem f115_12 : gFetch 115 12 = some (.iconst 4, 1, 0, 0) := rfl
theorem f115_13 : gFetch 115 13 = some (.if_icmp .ne 12, 3, 25, 0) := rfl
theorem f115_16 : gFetch 115 16 = some (.aload_n 0, 1, 0, 0) := rfl
theorem f115_17 : gFetch 115 17 = some (.aload_n 1, 1, 0, 0) := rfl
theorem f115_18 : gFetch 115 18 = some (.getfield 27, 3, 2, 4) := rfl
theorem f115_21 : gFetch 115 21 = some (.iload_n 2, 1, 0, 0) := rfl
theorem f115_22 : gFetch 115 22 = some (.invokevirtual 28, 3, 116, 3) := rfl
theorem f115_25 : gFetch 115 25 = some (.aload_n 0, 1, 0, 0) := rfl
theorem f115_26 : gFetch 115 26 = some (.aload_n 1, 1, 0, 0) := rfl
theorem f115_27 : gFetch 115 27 = some (.getfield 22, 3, 2, 0) := rfl
theorem f115_30 : gFetch 115 30 = some (.iconst 4, 1, 0, 0) := rfl
theorem f115_31 : gFetch 115 31 = some (.if_icmp .eq 7, 3, 38, 0) := rfl
theorem f115_34 : gFetch 115 34 = some (.iconst 1, 1, 0, 0) := rfl
theorem f115_35 : gFetch 115 35 = some (.goto 4, 3, 39, 0) := rfl
theorem f115_38 : gFetch 115 38 = some (.iconst 0, 1, 0, 0) := rfl
theorem f115_39 : gFetch 115 39 = some (.putfield 15, 3, 5, 1) := rfl
theorem f115_42 : gFetch 115 42 = some (.return_, 1, 0, 0) := rfl
theorem f116_0 : gFetch 116 0 = some (.aload_n 0, 1, 0, 0) := rfl
theorem f116_1 : gFetch 116 1 = some (.aload_n 0, 1, 0, 0) := rfl
theorem f116_2 : gFetch 116 2 = some (.getfield 9, 3, 5, 0) := rfl
theorem f116_5 : gFetch 116 5 = some (.ifCond .eq 15, 3, 20, 0) := rfl
theorem f116_8 : gFetch 116 8 = some (.iload_n 1, 1, 0, 0) := rfl
theorem f116_9 : gFetch 116 9 = some (.aload_n 0, 1, 0, 0) := rfl
theorem f116_10 : gFetch 116 10 = some (.getfield 18, 3, 5, 2) := rfl
theorem f116_13 : gFetch 116 13 = some (.iload_n 2, 1, 0, 0) := rfl
theorem f116_14 : gFetch 116 14 = some (.invokestatic 32, 3, 114, 3) := rfl
theorem f116_17 : gFetch 116 17 = some (.goto 4, 3, 21, 0) := rfl
theorem f116_20 : gFetch 116 20 = some (.iload_n 1, 1, 0, 0) := rfl
theorem f116_21 : gFetch 116 21 = some (.putfield 18, 3, 5, 2) := rfl
theorem f116_24 : gFetch 116 24 = some (.aload_n 0, 1, 0, 0) := rfl
theorem f116_25 : gFetch 116 25 = some (.iconst 1, 1, 0, 0) := rfl
theorem f116_26 : gFetch 116 26 = some (.putfield 9, 3, 5, 0) := rfl
theorem f116_29 : gFetch 116 29 = some (.return_, 1, 0, 0) := rfl
theorem f117_0 : gFetch 117 0 = some (.aload_n 0, 1, 0, 0) := rfl
theorem f117_1 : gFetch 117 1 = some (.invokespecial 3, 3, 900, 1) := rfl
theorem f117_4 : gFetch 117 4 = some (.aload_n 0, 1, 0, 0) := rfl
theorem f117_5 : gFetch 117 5 = some (.new 9, 3, 0, 0) := rfl
theorem f117_8 : gFetch 117 8 = some (.dup, 1, 0, 0) := rfl
theorem f117_9 : gFetch 117 9 = some (.invokespecial 11, 3, 160, 1) := rfl
theorem f117_12 : gFetch 117 12 = some (.putfield 12, 3, 6, 0) := rfl
theorem f117_15 : gFetch 117 15 = some (.aload_n 0, 1, 0, 0) := rfl
theorem f117_16 : gFetch 117 16 = some (.iconst (-1), 1, 0, 0) := rfl
theorem f117_17 : gFetch 117 17 = some (.putfield 18, 3, 6, 1) := rfl
theorem f117_20 : gFetch 117 20 = some (.return_, 1, 0, 0) := rfl
theorem f118_0 : gFetch 118 0 = some (.aload_n 0, 1, 0, 0) := rfl
theorem f118_1 : gFetch 118 1 = some (.getfield 12, 3, 6, 0) := rfl
theorem f118_4 : gFetch 118 4 = some (.invokevirtual 56, 3, 164, 1) := rfl
theorem f118_7 : gFetch 118 7 = some (.iconst 0, 1, 0, 0) := rfl
theorem f118_8 : gFetch 118 8 = some (.istore_n 2, 1, 0, 0) := rfl
theorem f118_9 : gFetch 118 9 = some (.iload_n 2, 1, 0, 0) := rfl
theorem f118_10 : gFetch 118 10 = some (.aload_n 1, 1, 0, 0) := rfl
theorem f118_11 : gFetch 118 11 = some (.getfield 12, 3, 6, 0) := rfl
theorem f118_14 : gFetch 118 14 = some (.invokevirtual 22, 3, 173, 1) := rfl
theorem f118_17 : gFetch 118 17 = some (.if_icmp .ge 28, 3, 45, 0) := rfl
theorem f118_20 : gFetch 118 20 = some (.aload_n 0, 1, 0, 0) := rfl
theorem f118_21 : gFetch 118 21 = some (.getfield 12, 3, 6, 0) := rfl
theorem f118_24 : gFetch 118 24 = some (.aload_n 1, 1, 0, 0) := rfl
theorem f118_25 : gFetch 118 25 = some (.getfield 12, 3, 6, 0) := rfl
theorem f118_28 : gFetch 118 28 = some (.iload_n 2, 1, 0, 0) := rfl
theorem f118_29 : gFetch 118 29 = some (.invokevirtual 26, 3, 167, 2) := rfl
theorem f118_32 : gFetch 118 32 = some (.checkcast 30, 3, 8, 0) := rfl
theorem f118_35 : gFetch 118 35 = some (.invokevirtual 59, 3, 162, 2) := rfl
theorem f118_38 : gFetch 118 38 = some (.pop, 1, 0, 0) := rfl
theorem f118_39 : gFetch 118 39 = some (.iinc 2 1, 3, 0, 0) := rfl
theorem f118_42 : gFetch 118 42 = some (.goto (-33), 3, 9, 0) := rfl
theorem f118_45 : gFetch 118 45 = some (.aload_n 0, 1, 0, 0) := rfl
theorem f118_46 : gFetch 118 46 = some (.aload_n 1, 1, 0, 0) := rfl
theorem f118_47 : gFetch 118 47 = some (.getfield 18, 3, 6, 1) := rfl
theorem f118_50 : gFetch 118 50 = some (.putfield 18, 3, 6, 1) := rfl
theorem f118_53 : gFetch 118 53 = some (.return_, 1, 0, 0) := rfl
theorem f119_0 : gFetch 119 0 = some (.aload_n 0, 1, 0, 0) := rfl
theorem f119_1 : gFetch 119 1 = some (.getfield 12, 3, 6, 0) := rfl
theorem f119_4 : gFetch 119 4 = some (.invokevirtual 22, 3, 173, 1) := rfl
theorem f119_7 : gFetch 119 7 = some (.ireturn, 1, 0, 0) := rfl
theorem f120_0 : gFetch 120 0 = some (.iconst 0, 1, 0, 0) := rfl
theorem f120_1 : gFetch 120 1 = some (.istore_n 2, 1, 0, 0) := rfl
theorem f120_2 : gFetch 120 2 = some (.iload_n 2, 1, 0, 0) := rfl
theorem f120_3 : gFetch 120 3 = some (.aload_n 0, 1, 0, 0) := rfl
theorem f120_4 : gFetch 120 4 = some (.getfield 12, 3, 6, 0) := rfl
theorem f120_7 : gFetch 120 7 = some (.invokevirtual 22, 3, 173, 1) := rfl
theorem f120_10 : gFetch 120 10 = some (.if_icmp .ge 32, 3, 42, 0) := rfl
theorem f120_13 : gFetch 120 13 = some (.aload_n 0, 1, 0, 0) := rfl
theorem f120_14 : gFetch 120 14 = some (.getfield 12, 3, 6, 0) := rfl
theorem f120_17 : gFetch 120 17 = some (.iload_n 2, 1, 0, 0) := rfl
theorem f120_18 : gFetch 120 18 = some (.invokevirtual 26, 3, 167, 2) := rfl
theorem f120_21 : gFetch 120 21 = some (.checkcast 30, 3, 8, 0) := rfl
theorem f120_24 : gFetch 120 24 = some (.getfield 39, 3, 8, 0) := rfl
theorem f120_27 : gFetch 120 27 = some (.aload_n 1, 1, 0, 0) := rfl
theorem f120_28 : gFetch 120 28 = some (.getfield 39, 3, 8, 0) := rfl
theorem f120_31 : gFetch 120 31 = some (.if_icmp .ne 5, 3, 36, 0) := rfl
theorem f120_34 : gFetch 120 34 = some (.iconst 1, 1, 0, 0) := rfl
theorem f120_35 : gFetch 120 35 = some (.ireturn, 1, 0, 0) := rfl
theorem f120_36 : gFetch 120 36 = some (.iinc 2 1, 3, 0, 0) := rfl
theorem f120_39 : gFetch 120 39 = some (.goto (-37), 3, 2, 0) := rfl
theorem f120_42 : gFetch 120 42 = some (.iconst 0, 1, 0, 0) := rfl
theorem f120_43 : gFetch 120 43 = some (.ireturn, 1, 0, 0) := rfl
theorem f121_0 : gFetch 121 0 = some (.iconst 0, 1, 0, 0) := rfl
theorem f121_1 : gFetch 121 1 = some (.istore_n 3, 1, 0, 0) := rfl
theorem f121_2 : gFetch 121 2 = some (.iload_n 2, 1, 0, 0) := rfl
theorem f121_3 : gFetch 121 3 = some (.ifCond .ne 41, 3, 44, 0) := rfl
theorem f121_6 : gFetch 121 6 = some (.iload_n 3, 1, 0, 0) := rfl
theorem f121_7 : gFetch 121 7 = some (.aload_n 0, 1, 0, 0) := rfl
theorem f121_8 : gFetch 121 8 = some (.getfield 12, 3, 6, 0) := rfl
theorem f121_11 : gFetch 121 11 = some (.invokevirtual 22, 3, 173, 1) := rfl
theorem f121_14 : gFetch 121 14 = some (.if_icmp .ge 30, 3, 44, 0) := rfl
theorem f121_17 : gFetch 121 17 = some (.aload_n 0, 1, 0, 0) := rfl
theorem f121_18 : gFetch 121 18 = some (.getfield 12, 3, 6, 0) := rfl
theorem f121_21 : gFetch 121 21 = some (.iload_n 3, 1, 0, 0) := rfl
theorem f121_22 : gFetch 121 22 = some (.invokevirtual 26, 3, 167, 2) := rfl
theorem f121_25 : gFetch 121 25 = some (.checkcast 30, 3, 8, 0) := rfl
theorem f121_28 : gFetch 121 28 = some (.getfield 42, 3, 8, 4) := rfl
theorem f121_31 : gFetch 121 31 = some (.aload_n 1, 1, 0, 0) := rfl
theorem f121_32 : gFetch 121 32 = some (.getfield 42, 3, 8, 4) := rfl
theorem f121_35 : gFetch 121 35 = some (.if_icmp .ge 9, 3, 44, 0) := rfl
theorem f121_38 : gFetch 121 38 = some (.iinc 3 1, 3, 0, 0) := rfl
theorem f121_41 : gFetch 121 41 = some (.goto (-39), 3, 2, 0) := rfl
theorem f121_44 : gFetch 121 44 = some (.aload_n 0, 1, 0, 0) := rfl
theorem f121_45 : gFetch 121 45 = some (.getfield 12, 3, 6, 0) := rfl
theorem f121_48 : gFetch 121 48 = some (.iload_n 3, 1, 0, 0) := rfl
theorem f121_49 : gFetch 121 49 = some (.aload_n 1, 1, 0, 0) := rfl
theorem f121_50 : gFetch 121 50 = some (.invokevirtual 45, 3, 161, 3) := rfl
theorem f121_53 : gFetch 121 53 = some (.return_, 1, 0, 0) := rfl
theorem f122_0 : gFetch 122 0 = some (.iconst 0, 1, 0, 0) := rfl
theorem f122_1 : gFetch 122 1 = some (.istore_n 2, 1, 0, 0) := rfl
theorem f122_2 : gFetch 122 2 = some (.iload_n 2, 1, 0, 0) := rfl
theorem f122_3 : gFetch 122 3 = some (.aload_n 1, 1, 0, 0) := rfl
theorem f122_4 : gFetch 122 4 = some (.invokevirtual 22, 3, 173, 1) := rfl
theorem f122_7 : gFetch 122 7 = some (.if_icmp .ge 29, 3, 36, 0) := rfl
theorem f122_10 : gFetch 122 10 = some (.aload_n 1, 1, 0, 0) := rfl
theorem f122_11 : gFetch 122 11 = some (.iload_n 2, 1, 0, 0) := rfl
theorem f122_12 : gFetch 122 12 = some (.invokevirtual 26, 3, 167, 2) := rfl
theorem f122_15 : gFetch 122 15 = some (.checkcast 30, 3, 8, 0) := rfl
theorem f122_18 : gFetch 122 18 = some (.getfield 39, 3, 8, 0) := rfl
theorem f122_21 : gFetch 122 21 = some (.aload_n 0, 1, 0, 0) := rfl
theorem f122_22 : gFetch 122 22 = some (.getfield 39, 3, 8, 0) := rfl
theorem f122_25 : gFetch 122 25 = some (.if_icmp .ne 5, 3, 30, 0) := rfl
theorem f122_28 : gFetch 122 28 = some (.iconst 1, 1, 0, 0) := rfl
theorem f122_29 : gFetch 122 29 = some (.ireturn, 1, 0, 0) := rfl
theorem f122_30 : gFetch 122 30 = some (.iinc 2 1, 3, 0, 0) := rfl
theorem f122_33 : gFetch 122 33 = some (.goto (-31), 3, 2, 0) := rfl
theorem f122_36 : gFetch 122 36 = some (.iconst 0, 1, 0, 0) := rfl
theorem f122_37 : gFetch 122 37 = some (.ireturn, 1, 0, 0) := rfl
theorem f123_0 : gFetch 123 0 = some (.iconst 0, 1, 0, 0) := rfl
theorem f123_1 : gFetch 123 1 = some (.istore_n 1, 1, 0, 0) := rfl
theorem f123_2 : gFetch 123 2 = some (.iload_n 1, 1, 0, 0) := rfl
theorem f123_3 : gFetch 123 3 = some (.aload_n 0, 1, 0, 0) := rfl
theorem f123_4 : gFetch 123 4 = some (.getfield 12, 3, 6, 0) := rfl
theorem f123_7 : gFetch 123 7 = some (.invokevirtual 22, 3, 173, 1) := rfl
theorem f123_10 : gFetch 123 10 = some (.if_icmp .ge 28, 3, 38, 0) := rfl
theorem f123_13 : gFetch 123 13 = some (.aload_n 0, 1, 0, 0) := rfl
theorem f123_14 : gFetch 123 14 = some (.getfield 12, 3, 6, 0) := rfl
theorem f123_17 : gFetch 123 17 = some (.iload_n 1, 1, 0, 0) := rfl
theorem f123_18 : gFetch 123 18 = some (.invokevirtual 26, 3, 167, 2) := rfl
theorem f123_21 : gFetch 123 21 = some (.checkcast 30, 3, 8, 0) := rfl
theorem f123_24 : gFetch 123 24 = some (.invokevirtual 65, 3, 143, 1) := rfl
theorem f123_27 : gFetch 123 27 = some (.ifCond .ne 5, 3, 32, 0) := rfl
theorem f123_30 : gFetch 123 30 = some (.iconst 0, 1, 0, 0) := rfl
theorem f123_31 : gFetch 123 31 = some (.ireturn, 1, 0, 0) := rfl
theorem f123_32 : gFetch 123 32 = some (.iinc 1 1, 3, 0, 0) := rfl
theorem f123_35 : gFetch 123 35 = some (.goto (-33), 3, 2, 0) := rfl
theorem f123_38 : gFetch 123 38 = some (.iconst 1, 1, 0, 0) := rfl
theorem f123_39 : gFetch 123 39 = some (.ireturn, 1, 0, 0) := rfl
theorem f124_0 : gFetch 124 0 = some (.iconst 1, 1, 0, 0) := rfl
theorem f124_1 : gFetch 124 1 = some (.istore_n 1, 1, 0, 0) := rfl
theorem f124_2 : gFetch 124 2 = some (.iload_n 1, 1, 0, 0) := rfl
theorem f124_3 : gFetch 124 3 = some (.aload_n 0, 1, 0, 0) := rfl
theorem f124_4 : gFetch 124 4 = some (.getfield 12, 3, 6, 0) := rfl
theorem f124_7 : gFetch 124 7 = some (.invokevirtual 22, 3, 173, 1) := rfl
theorem f124_10 : gFetch 124 10 = some (.if_icmp .ge 44, 3, 54, 0) := rfl
theorem f124_13 : gFetch 124 13 = some (.aload_n 0, 1, 0, 0) := rfl
theorem f124_14 : gFetch 124 14 = some (.getfield 12, 3, 6, 0) := rfl
theorem f124_17 : gFetch 124 17 = some (.iload_n 1, 1, 0, 0) := rfl
theorem f124_18 : gFetch 124 18 = some (.iconst 1, 1, 0, 0) := rfl
theorem f124_19 : gFetch 124 19 = some (.isub, 1, 0, 0) := rfl
theorem f124_20 : gFetch 124 20 = some (.invokevirtual 26, 3, 167, 2) := rfl
theorem f124_23 : gFetch 124 23 = some (.checkcast 30, 3, 8, 0) := rfl
theorem f124_26 : gFetch 124 26 = some (.getfield 62, 3, 8, 5) := rfl
theorem f124_29 : gFetch 124 29 = some (.aload_n 0, 1, 0, 0) := rfl
theorem f124_30 : gFetch 124 30 = some (.getfield 12, 3, 6, 0) := rfl
theorem f124_33 : gFetch 124 33 = some (.iload_n 1, 1, 0, 0) := rfl
theorem f124_34 : gFetch 124 34 = some (.invokevirtual 26, 3, 167, 2) := rfl
theorem f124_37 : gFetch 124 37 = some (.checkcast 30, 3, 8, 0) := rfl
theorem f124_40 : gFetch 124 40 = some (.getfield 42, 3, 8, 4) := rfl
theorem f124_43 : gFetch 124 43 = some (.if_icmp .lt 5, 3, 48, 0) := rfl
theorem f124_46 : gFetch 124 46 = some (.iconst 0, 1, 0, 0) := rfl
theorem f124_47 : gFetch 124 47 = some (.ireturn, 1, 0, 0) := rfl
theorem f124_48 : gFetch 124 48 = some (.iinc 1 1, 3, 0, 0) := rfl
theorem f124_51 : gFetch 124 51 = some (.goto (-49), 3, 2, 0) := rfl
theorem f124_54 : gFetch 124 54 = some (.iconst 1, 1, 0, 0) := rfl
theorem f124_55 : gFetch 124 55 = some (.ireturn, 1, 0, 0) := rfl
theorem f125_0 : gFetch 125 0 = some (.iconst 0, 1, 0, 0) := rfl
theorem f125_1 : gFetch 125 1 = some (.istore_n 3, 1, 0, 0) := rfl
theorem f125_2 : gFetch 125 2 = some (.iload_n 3, 1, 0, 0) := rfl
theorem f125_3 : gFetch 125 3 = some (.aload_n 0, 1, 0, 0) := rfl
theorem f125_4 : gFetch 125 4 = some (.getfield 12, 3, 6, 0) := rfl
theorem f125_7 : gFetch 125 7 = some (.invokevirtual 22, 3, 173, 1) := rfl
theorem f125_10 : gFetch 125 10 = some (.if_icmp .ge 30, 3, 40, 0) := rfl
theorem f125_13 : gFetch 125 13 = some (.aload_n 0, 1, 0, 0) := rfl
theorem f125_14 : gFetch 125 14 = some (.getfield 12, 3, 6, 0) := rfl
theorem f125_17 : gFetch 125 17 = some (.iload_n 3, 1, 0, 0) := rfl
theorem f125_18 : gFetch 125 18 = some (.invokevirtual 26, 3, 167, 2) := rfl
theorem f125_21 : gFetch 125 21 = some (.checkcast 30, 3, 8, 0) := rfl
theorem f125_24 : gFetch 125 24 = some (.iload_n 1, 1, 0, 0) := rfl
theorem f125_25 : gFetch 125 25 = some (.iload_n 2, 1, 0, 0) := rfl
theorem f125_26 : gFetch 125 26 = some (.invokevirtual 35, 3, 147, 3) := rfl
theorem f125_29 : gFetch 125 29 = some (.ifCond .eq 5, 3, 34, 0) := rfl
theorem f125_32 : gFetch 125 32 = some (.iconst 1, 1, 0, 0) := rfl
theorem f125_33 : gFetch 125 33 = some (.ireturn, 1, 0, 0) := rfl
theorem f125_34 : gFetch 125 34 = some (.iinc 3 1, 3, 0, 0) := rfl
theorem f125_37 : gFetch 125 37 = some (.goto (-35), 3, 2, 0) := rfl
theorem f125_40 : gFetch 125 40 = some (.iconst 0, 1, 0, 0) := rfl
theorem f125_41 : gFetch 125 41 = some (.ireturn, 1, 0, 0) := rfl
theorem f126_0 : gFetch 126 0 = some (.aload_n 0, 1, 0, 0) := rfl
theorem f126_1 : gFetch 126 1 = some (.getfield 12, 3, 6, 0) := rfl
theorem f126_4 : gFetch 126 4 = some (.invokevirtual 22, 3, 173, 1) := rfl
theorem f126_7 : gFetch 126 7 = some (.iconst 1, 1, 0, 0) := rfl
theorem f126_8 : gFetch 126 8 = some (.isub, 1, 0, 0) := rfl
theorem f126_9 : gFetch 126 9 = some (.istore_n 2, 1, 0, 0) := rfl
theorem f126_10 : gFetch 126 10 = some (.iload_n 2, 1, 0, 0) := rfl
theorem f126_11 : gFetch 126 11 = some (.ifCond .lt 36, 3, 47, 0) := rfl
theorem f126_14 : gFetch 126 14 = some (.aload_n 0, 1, 0, 0) := rfl
theorem f126_15 : gFetch 126 15 = some (.getfield 12, 3, 6, 0) := rfl
theorem f126_18 : gFetch 126 18 = some (.iload_n 2, 1, 0, 0) := rfl
theorem f126_19 : gFetch 126 19 = some (.invokevirtual 26, 3, 167, 2) := rfl
theorem f126_22 : gFetch 126 22 = some (.checkcast 30, 3, 8, 0) := rfl
theorem f126_25 : gFetch 126 25 = some (.aload_n 1, 1, 0, 0) := rfl
theorem f126_26 : gFetch 126 26 = some (.invokestatic 49, 3, 122, 2) := rfl
theorem f126_29 : gFetch 126 29 = some (.ifCond .eq 12, 3, 41, 0) := rfl
theorem f126_32 : gFetch 126 32 = some (.aload_n 0, 1, 0, 0) := rfl
theorem f126_33 : gFetch 126 33 = some (.getfield 12, 3, 6, 0) := rfl
theorem f126_36 : gFetch 126 36 = some (.iload_n 2, 1, 0, 0) := rfl
theorem f126_37 : gFetch 126 37 = some (.invokevirtual 53, 3, 172, 2) := rfl
theorem f126_40 : gFetch 126 40 = some (.pop, 1, 0, 0) := rfl
theorem f126_41 : gFetch 126 41 = some (.iinc 2 (-1), 3, 0, 0) := rfl
theorem f126_44 : gFetch 126 44 = some (.goto (-34), 3, 10, 0) := rfl
theorem f126_47 : gFetch 126 47 = some (.return_, 1, 0, 0) := rfl
theorem f127_0 : gFetch 127 0 = some (.iconst 0, 1, 0, 0) := rfl
theorem f127_1 : gFetch 127 1 = some (.istore_n 1, 1, 0, 0) := rfl
theorem f127_2 : gFetch 127 2 = some (.iconst 0, 1, 0, 0) := rfl
theorem f127_3 : gFetch 127 3 = some (.istore_n 2, 1, 0, 0) := rfl
theorem f127_4 : gFetch 127 4 = some (.iload_n 2, 1, 0, 0) := rfl
theorem f127_5 : gFetch 127 5 = some (.aload_n 0, 1, 0, 0) := rfl
theorem f127_6 : gFetch 127 6 = some (.getfield 12, 3, 6, 0) := rfl
theorem f127_9 : gFetch 127 9 = some (.invokevirtual 22, 3, 173, 1) := rfl
theorem f127_12 : gFetch 127 12 = some (.if_icmp .ge 26, 3, 38, 0) := rfl
theorem f127_15 : gFetch 127 15 = some (.iload_n 1, 1, 0, 0) := rfl
theorem f127_16 : gFetch 127 16 = some (.aload_n 0, 1, 0, 0) := rfl
theorem f127_17 : gFetch 127 17 = some (.getfield 12, 3, 6, 0) := rfl
theorem f127_20 : gFetch 127 20 = some (.iload_n 2, 1, 0, 0) := rfl
theorem f127_21 : gFetch 127 21 = some (.invokevirtual 26, 3, 167, 2) := rfl
theorem f127_24 : gFetch 127 24 = some (.checkcast 30, 3, 8, 0) := rfl
theorem f127_27 : gFetch 127 27 = some (.invokevirtual 32, 3, 148, 1) := rfl
theorem f127_30 : gFetch 127 30 = some (.iadd, 1, 0, 0) := rfl
theorem f127_31 : gFetch 127 31 = some (.istore_n 1, 1, 0, 0) := rfl
theorem f127_32 : gFetch 127 32 = some (.iinc 2 1, 3, 0, 0) := rfl
theorem f127_35 : gFetch 127 35 = some (.goto (-31), 3, 4, 0) := rfl
theorem f127_38 : gFetch 127 38 = some (.iload_n 1, 1, 0, 0) := rfl
theorem f127_39 : gFetch 127 39 = some (.ireturn, 1, 0, 0) := rfl
theorem f128_0 : gFetch 128 0 = some (.aload_n 0, 1, 0, 0) := rfl
theorem f128_1 : gFetch 128 1 = some (.invokespecial 3, 3, 900, 1) := rfl
theorem f128_4 : gFetch 128 4 = some (.aload_n 0, 1, 0, 0) := rfl
theorem f128_5 : gFetch 128 5 = some (.new 9, 3, 0, 0) := rfl
theorem f128_8 : gFetch 128 8 = some (.dup, 1, 0, 0) := rfl
theorem f128_9 : gFetch 128 9 = some (.invokespecial 11, 3, 160, 1) := rfl
theorem f128_12 : gFetch 128 12 = some (.putfield 12, 3, 7, 2) := rfl
theorem f128_15 : gFetch 128 15 = some (.aload_n 0, 1, 0, 0) := rfl
theorem f128_16 : gFetch 128 16 = some (.new 9, 3, 0, 0) := rfl
theorem f128_19 : gFetch 128 19 = some (.dup, 1, 0, 0) := rfl
theorem f128_20 : gFetch 128 20 = some (.invokespecial 11, 3, 160, 1) := rfl
theorem f128_23 : gFetch 128 23 = some (.putfield 18, 3, 7, 3) := rfl
theorem f128_26 : gFetch 128 26 = some (.aload_n 0, 1, 0, 0) := rfl
theorem f128_27 : gFetch 128 27 = some (.iconst (-1), 1, 0, 0) := rfl
theorem f128_28 : gFetch 128 28 = some (.putfield 21, 3, 7, 5) := rfl
theorem f128_31 : gFetch 128 31 = some (.aload_n 0, 1, 0, 0) := rfl
theorem f128_32 : gFetch 128 32 = some (.aload_n 1, 1, 0, 0) := rfl
theorem f128_33 : gFetch 128 33 = some (.putfield 25, 3, 7, 0) := rfl
theorem f128_36 : gFetch 128 36 = some (.aload_n 0, 1, 0, 0) := rfl
theorem f128_37 : gFetch 128 37 = some (.iload_n 2, 1, 0, 0) := rfl
theorem f128_38 : gFetch 128 38 = some (.putfield 29, 3, 7, 1) := rfl
theorem f128_41 : gFetch 128 41 = some (.aload_n 0, 1, 0, 0) := rfl
theorem f128_42 : gFetch 128 42 = some (.invokevirtual 32, 3, 130, 1) := rfl
theorem f128_45 : gFetch 128 45 = some (.aload_n 0, 1, 0, 0) := rfl
theorem f128_46 : gFetch 128 46 = some (.aload_n 0, 1, 0, 0) := rfl
theorem f128_47 : gFetch 128 47 = some (.invokevirtual 35, 3, 132, 1) := rfl
theorem f128_50 : gFetch 128 50 = some (.putfield 39, 3, 7, 4) := rfl
theorem f128_53 : gFetch 128 53 = some (.aload_n 0, 1, 0, 0) := rfl
theorem f128_54 : gFetch 128 54 = some (.invokevirtual 42, 3, 129, 1) := rfl
theorem f128_57 : gFetch 128 57 = some (.return_, 1, 0, 0) := rfl
theorem f129_0 : gFetch 129 0 = some (.aload_n 0, 1, 0, 0) := rfl
theorem f129_1 : gFetch 129 1 = some (.invokevirtual 75, 3, 134, 1) := rfl
theorem f129_4 : gFetch 129 4 = some (.istore_n 1, 1, 0, 0) := rfl
theorem f129_5 : gFetch 129 5 = some (.aload_n 0, 1, 0, 0) := rfl
theorem f129_6 : gFetch 129 6 = some (.getfield 25, 3, 7, 0) := rfl
theorem f129_9 : gFetch 129 9 = some (.aload_n 0, 1, 0, 0) := rfl
theorem f129_10 : gFetch 129 10 = some (.getfield 29, 3, 7, 1) := rfl
theorem f129_13 : gFetch 129 13 = some (.iconst 1, 1, 0, 0) := rfl
theorem f129_14 : gFetch 129 14 = some (.iadd, 1, 0, 0) := rfl
theorem f129_15 : gFetch 129 15 = some (.invokevirtual 45, 3, 108, 2) := rfl
theorem f129_18 : gFetch 129 18 = some (.getfield 51, 3, 6, 0) := rfl
theorem f129_21 : gFetch 129 21 = some (.astore_n 2, 1, 0, 0) := rfl
theorem f129_22 : gFetch 129 22 = some (.iconst 0, 1, 0, 0) := rfl
theorem f129_23 : gFetch 129 23 = some (.istore_n 3, 1, 0, 0) := rfl
theorem f129_24 : gFetch 129 24 = some (.iload_n 3, 1, 0, 0) := rfl
theorem f129_25 : gFetch 129 25 = some (.aload_n 2, 1, 0, 0) := rfl
theorem f129_26 : gFetch 129 26 = some (.invokevirtual 56, 3, 173, 1) := rfl
theorem f129_29 : gFetch 129 29 = some (.if_icmp .ge 44, 3, 73, 0) := rfl
theorem f129_32 : gFetch 129 32 = some (.aload_n 2, 1, 0, 0) := rfl
theorem f129_33 : gFetch 129 33 = some (.iload_n 3, 1, 0, 0) := rfl
theorem f129_34 : gFetch 129 34 = some (.invokevirtual 59, 3, 167, 2) := rfl
theorem f129_37 : gFetch 129 37 = some (.checkcast 63, 3, 8, 0) := rfl
theorem f129_40 : gFetch 129 40 = some (.iload_n 1, 1, 0, 0) := rfl
theorem f129_41 : gFetch 129 41 = some (.aload_n 0, 1, 0, 0) := rfl
theorem f129_42 : gFetch 129 42 = some (.getfield 39, 3, 7, 4) := rfl
theorem f129_45 : gFetch 129 45 = some (.invokevirtual 77, 3, 147, 3) := rfl
theorem f129_48 : gFetch 129 48 = some (.ifCond .eq 19, 3, 67, 0) := rfl
theorem f129_51 : gFetch 129 51 = some (.aload_n 0, 1, 0, 0) := rfl
theorem f129_52 : gFetch 129 52 = some (.getfield 12, 3, 7, 2) := rfl
theorem f129_55 : gFetch 129 55 = some (.aload_n 2, 1, 0, 0) := rfl
theorem f129_56 : gFetch 129 56 = some (.iload_n 3, 1, 0, 0) := rfl
theorem f129_57 : gFetch 129 57 = some (.invokevirtual 59, 3, 167, 2) := rfl
theorem f129_60 : gFetch 129 60 = some (.checkcast 63, 3, 8, 0) := rfl
theorem f129_63 : gFetch 129 63 = some (.invokevirtual 71, 3, 162, 2) := rfl
theorem f129_66 : gFetch 129 66 = some (.pop, 1, 0, 0) := rfl
theorem f129_67 : gFetch 129 67 = some (.iinc 3 1, 3, 0, 0) := rfl
theorem f129_70 : gFetch 129 70 = some (.goto (-46), 3, 24, 0) := rfl
theorem f129_73 : gFetch 129 73 = some (.return_, 1, 0, 0) := rfl
theorem f130_0 : gFetch 130 0 = some (.aload_n 0, 1, 0, 0) := rfl
theorem f130_1 : gFetch 130 1 = some (.getfield 25, 3, 7, 0) := rfl
theorem f130_4 : gFetch 130 4 = some (.aload_n 0, 1, 0, 0) := rfl
theorem f130_5 : gFetch 130 5 = some (.getfield 29, 3, 7, 1) := rfl
theorem f130_8 : gFetch 130 8 = some (.invokevirtual 45, 3, 108, 2) := rfl
theorem f130_11 : gFetch 130 11 = some (.astore_n 1, 1, 0, 0) := rfl
theorem f130_12 : gFetch 130 12 = some (.aload_n 1, 1, 0, 0) := rfl
theorem f130_13 : gFetch 130 13 = some (.getfield 51, 3, 6, 0) := rfl
theorem f130_16 : gFetch 130 16 = some (.astore_n 2, 1, 0, 0) := rfl
theorem f130_17 : gFetch 130 17 = some (.iconst 0, 1, 0, 0) := rfl
theorem f130_18 : gFetch 130 18 = some (.istore_n 3, 1, 0, 0) := rfl
theorem f130_19 : gFetch 130 19 = some (.aload_n 2, 1, 0, 0) := rfl
theorem f130_20 : gFetch 130 20 = some (.invokevirtual 56, 3, 173, 1) := rfl
theorem f130_23 : gFetch 130 23 = some (.iconst 1, 1, 0, 0) := rfl
theorem f130_24 : gFetch 130 24 = some (.isub, 1, 0, 0) := rfl
theorem f130_25 : gFetch 130 25 = some (.istore 4, 2, 0, 0) := rfl
theorem f130_27 : gFetch 130 27 = some (.iload 4, 2, 0, 0) := rfl
theorem f130_29 : gFetch 130 29 = some (.ifCond .lt 31, 3, 60, 0) := rfl
theorem f130_32 : gFetch 130 32 = some (.aload_n 2, 1, 0, 0) := rfl
theorem f130_33 : gFetch 130 33 = some (.iload 4, 2, 0, 0) := rfl
theorem f130_35 : gFetch 130 35 = some (.invokevirtual 59, 3, 167, 2) := rfl
theorem f130_38 : gFetch 130 38 = some (.checkcast 63, 3, 8, 0) := rfl
theorem f130_41 : gFetch 130 41 = some (.getfield 65, 3, 8, 4) := rfl
theorem f130_44 : gFetch 130 44 = some (.aload_n 1, 1, 0, 0) := rfl
theorem f130_45 : gFetch 130 45 = some (.getfield 68, 3, 6, 1) := rfl
theorem f130_48 : gFetch 130 48 = some (.if_icmp .le 6, 3, 54, 0) := rfl
theorem f130_51 : gFetch 130 51 = some (.iload 4, 2, 0, 0) := rfl
theorem f130_53 : gFetch 130 53 = some (.istore_n 3, 1, 0, 0) := rfl
theorem f130_54 : gFetch 130 54 = some (.iinc 4 (-1), 3, 0, 0) := rfl
theorem f130_57 : gFetch 130 57 = some (.goto (-30), 3, 27, 0) := rfl
theorem f130_60 : gFetch 130 60 = some (.iconst 0, 1, 0, 0) := rfl
theorem f130_61 : gFetch 130 61 = some (.istore 4, 2, 0, 0) := rfl
theorem f130_63 : gFetch 130 63 = some (.iload 4, 2, 0, 0) := rfl
theorem f130_65 : gFetch 130 65 = some (.aload_n 2, 1, 0, 0) := rfl
theorem f130_66 : gFetch 130 66 = some (.invokevirtual 56, 3, 173, 1) := rfl
theorem f130_69 : gFetch 130 69 = some (.if_icmp .ge 39, 3, 108, 0) := rfl
theorem f130_72 : gFetch 130 72 = some (.aload_n 0, 1, 0, 0) := rfl
theorem f130_73 : gFetch 130 73 = some (.getfield 29, 3, 7, 1) := rfl
theorem f130_76 : gFetch 130 76 = some (.ifCond .eq 9, 3, 85, 0) := rfl
theorem f130_79 : gFetch 130 79 = some (.iload 4, 2, 0, 0) := rfl
theorem f130_81 : gFetch 130 81 = some (.iload_n 3, 1, 0, 0) := rfl
theorem f130_82 : gFetch 130 82 = some (.if_icmp .ne 20, 3, 102, 0) := rfl
theorem f130_85 : gFetch 130 85 = some (.aload_n 0, 1, 0, 0) := rfl
theorem f130_86 : gFetch 130 86 = some (.getfield 12, 3, 7, 2) := rfl
theorem f130_89 : gFetch 130 89 = some (.aload_n 2, 1, 0, 0) := rfl
theorem f130_90 : gFetch 130 90 = some (.iload 4, 2, 0, 0) := rfl
theorem f130_92 : gFetch 130 92 = some (.invokevirtual 59, 3, 167, 2) := rfl
theorem f130_95 : gFetch 130 95 = some (.checkcast 63, 3, 8, 0) := rfl
theorem f130_98 : gFetch 130 98 = some (.invokevirtual 71, 3, 162, 2) := rfl
theorem f130_101 : gFetch 130 101 = some (.pop, 1, 0, 0) := rfl
theorem f130_102 : gFetch 130 102 = some (.iinc 4 1, 3, 0, 0) := rfl
theorem f130_105 : gFetch 130 105 = some (.goto (-42), 3, 63, 0) := rfl
theorem f130_108 : gFetch 130 108 = some (.return_, 1, 0, 0) := rfl
theorem f131_0 : gFetch 131 0 = some (.aload_n 0, 1, 0, 0) := rfl
theorem f131_1 : gFetch 131 1 = some (.getfield 25, 3, 7, 0) := rfl
theorem f131_4 : gFetch 131 4 = some (.aload_n 1, 1, 0, 0) := rfl
theorem f131_5 : gFetch 131 5 = some (.if_acmp .ne 42, 3, 47, 0) := rfl
theorem f131_8 : gFetch 131 8 = some (.iload_n 2, 1, 0, 0) := rfl
theorem f131_9 : gFetch 131 9 = some (.aload_n 0, 1, 0, 0) := rfl
theorem f131_10 : gFetch 131 10 = some (.getfield 29, 3, 7, 1) := rfl
theorem f131_13 : gFetch 131 13 = some (.if_icmp .eq 13, 3, 26, 0) := rfl
theorem f131_16 : gFetch 131 16 = some (.iload_n 2, 1, 0, 0) := rfl
theorem f131_17 : gFetch 131 17 = some (.aload_n 0, 1, 0, 0) := rfl
theorem f131_18 : gFetch 131 18 = some (.getfield 29, 3, 7, 1) := rfl
theorem f131_21 : gFetch 131 21 = some (.iconst 1, 1, 0, 0) := rfl
theorem f131_22 : gFetch 131 22 = some (.iadd, 1, 0, 0) := rfl
theorem f131_23 : gFetch 131 23 = some (.if_icmp .ne 24, 3, 47, 0) := rfl
theorem f131_26 : gFetch 131 26 = some (.aload_n 0, 1, 0, 0) := rfl
theorem f131_27 : gFetch 131 27 = some (.invokevirtual 75, 3, 134, 1) := rfl
theorem f131_30 : gFetch 131 30 = some (.iload 4, 2, 0, 0) := rfl
theorem f131_32 : gFetch 131 32 = some (.if_icmp .gt 15, 3, 47, 0) := rfl
theorem f131_35 : gFetch 131 35 = some (.iload_n 3, 1, 0, 0) := rfl
theorem f131_36 : gFetch 131 36 = some (.aload_n 0, 1, 0, 0) := rfl
theorem f131_37 : gFetch 131 37 = some (.invokevirtual 35, 3, 132, 1) := rfl
theorem f131_40 : gFetch 131 40 = some (.if_icmp .gt 7, 3, 47, 0) := rfl
theorem f131_43 : gFetch 131 43 = some (.iconst 1, 1, 0, 0) := rfl
theorem f131_44 : gFetch 131 44 = some (.goto 4, 3, 48, 0) := rfl
theorem f131_47 : gFetch 131 47 = some (.iconst 0, 1, 0, 0) := rfl
theorem f131_48 : gFetch 131 48 = some (.ireturn, 1, 0, 0) := rfl
theorem f132_0 : gFetch 132 0 = some (.iconst (-1), 1, 0, 0) := rfl
theorem f132_1 : gFetch 132 1 = some (.istore_n 1, 1, 0, 0) := rfl
theorem f132_2 : gFetch 132 2 = some (.iconst 0, 1, 0, 0) := rfl
theorem f132_3 : gFetch 132 3 = some (.istore_n 2, 1, 0, 0) := rfl
theorem f132_4 : gFetch 132 4 = some (.iload_n 2, 1, 0, 0) := rfl
theorem f132_5 : gFetch 132 5 = some (.aload_n 0, 1, 0, 0) := rfl
theorem f132_6 : gFetch 132 6 = some (.getfield 12, 3, 7, 2) := rfl
theorem f132_9 : gFetch 132 9 = some (.invokevirtual 56, 3, 173, 1) := rfl
theorem f132_12 : gFetch 132 12 = some (.if_icmp .ge 28, 3, 40, 0) := rfl
theorem f132_15 : gFetch 132 15 = some (.iload_n 1, 1, 0, 0) := rfl
theorem f132_16 : gFetch 132 16 = some (.aload_n 0, 1, 0, 0) := rfl
theorem f132_17 : gFetch 132 17 = some (.getfield 12, 3, 7, 2) := rfl
theorem f132_20 : gFetch 132 20 = some (.iload_n 2, 1, 0, 0) := rfl
theorem f132_21 : gFetch 132 21 = some (.invokevirtual 59, 3, 167, 2) := rfl
theorem f132_24 : gFetch 132 24 = some (.checkcast 63, 3, 8, 0) := rfl
theorem f132_27 : gFetch 132 27 = some (.getfield 87, 3, 8, 5) := rfl
theorem f132_30 : gFetch 132 30 = some (.invokestatic 89, 3, 156, 2) := rfl
theorem f132_33 : gFetch 132 33 = some (.istore_n 1, 1, 0, 0) := rfl
theorem f132_34 : gFetch 132 34 = some (.iinc 2 1, 3, 0, 0) := rfl
theorem f132_37 : gFetch 132 37 = some (.goto (-33), 3, 4, 0) := rfl
theorem f132_40 : gFetch 132 40 = some (.iload_n 1, 1, 0, 0) := rfl
theorem f132_41 : gFetch 132 41 = some (.ireturn, 1, 0, 0) := rfl
theorem f133_0 : gFetch 133 0 = some (.iconst 0, 1, 0, 0) := rfl
theorem f133_1 : gFetch 133 1 = some (.istore_n 2, 1, 0, 0) := rfl
theorem f133_2 : gFetch 133 2 = some (.iload_n 2, 1, 0, 0) := rfl
theorem f133_3 : gFetch 133 3 = some (.aload_n 0, 1, 0, 0) := rfl
theorem f133_4 : gFetch 133 4 = some (.getfield 18, 3, 7, 3) := rfl
theorem f133_7 : gFetch 133 7 = some (.invokevirtual 56, 3, 173, 1) := rfl
theorem f133_10 : gFetch 133 10 = some (.if_icmp .ge 49, 3, 59, 0) := rfl
theorem f133_13 : gFetch 133 13 = some (.aload_n 0, 1, 0, 0) := rfl
theorem f133_14 : gFetch 133 14 = some (.getfield 18, 3, 7, 3) := rfl
theorem f133_17 : gFetch 133 17 = some (.iload_n 2, 1, 0, 0) := rfl
theorem f133_18 : gFetch 133 18 = some (.invokevirtual 59, 3, 167, 2) := rfl
theorem f133_21 : gFetch 133 21 = some (.checkcast 96, 3, 2, 0) := rfl
theorem f133_24 : gFetch 133 24 = some (.astore_n 3, 1, 0, 0) := rfl
theorem f133_25 : gFetch 133 25 = some (.aload_n 3, 1, 0, 0) := rfl
theorem f133_26 : gFetch 133 26 = some (.getfield 98, 3, 2, 1) := rfl
theorem f133_29 : gFetch 133 29 = some (.aload_n 1, 1, 0, 0) := rfl
theorem f133_30 : gFetch 133 30 = some (.getfield 98, 3, 2, 1) := rfl
theorem f133_33 : gFetch 133 33 = some (.if_icmp .ge 20, 3, 53, 0) := rfl
theorem f133_36 : gFetch 133 36 = some (.aload_n 1, 1, 0, 0) := rfl
theorem f133_37 : gFetch 133 37 = some (.aload_n 3, 1, 0, 0) := rfl
theorem f133_38 : gFetch 133 38 = some (.getfield 101, 3, 2, 2) := rfl
theorem f133_41 : gFetch 133 41 = some (.aload_n 3, 1, 0, 0) := rfl
theorem f133_42 : gFetch 133 42 = some (.getfield 101, 3, 2, 2) := rfl
theorem f133_45 : gFetch 133 45 = some (.invokevirtual 104, 3, 102, 3) := rfl
theorem f133_48 : gFetch 133 48 = some (.ifCond .eq 5, 3, 53, 0) := rfl
theorem f133_51 : gFetch 133 51 = some (.iconst 1, 1, 0, 0) := rfl
theorem f133_52 : gFetch 133 52 = some (.ireturn, 1, 0, 0) := rfl
theorem f133_53 : gFetch 133 53 = some (.iinc 2 1, 3, 0, 0) := rfl
theorem f133_56 : gFetch 133 56 = some (.goto (-54), 3, 2, 0) := rfl
theorem f133_59 : gFetch 133 59 = some (.iconst 0, 1, 0, 0) := rfl
theorem f133_60 : gFetch 133 60 = some (.ireturn, 1, 0, 0) := rfl
theorem f134_0 : gFetch 134 0 = some (.bipush 100, 2, 0, 0) := rfl
theorem f134_2 : gFetch 134 2 = some (.istore_n 1, 1, 0, 0) := rfl
theorem f134_3 : gFetch 134 3 = some (.iconst 0, 1, 0, 0) := rfl
theorem f134_4 : gFetch 134 4 = some (.istore_n 2, 1, 0, 0) := rfl
theorem f134_5 : gFetch 134 5 = some (.iload_n 2, 1, 0, 0) := rfl
theorem f134_6 : gFetch 134 6 = some (.aload_n 0, 1, 0, 0) := rfl
theorem f134_7 : gFetch 134 7 = some (.getfield 12, 3, 7, 2) := rfl
theorem f134_10 : gFetch 134 10 = some (.invokevirtual 56, 3, 173, 1) := rfl
theorem f134_13 : gFetch 134 13 = some (.if_icmp .ge 28, 3, 41, 0) := rfl
theorem f134_16 : gFetch 134 16 = some (.iload_n 1, 1, 0, 0) := rfl
theorem f134_17 : gFetch 134 17 = some (.aload_n 0, 1, 0, 0) := rfl
theorem f134_18 : gFetch 134 18 = some (.getfield 12, 3, 7, 2) := rfl
theorem f134_21 : gFetch 134 21 = some (.iload_n 2, 1, 0, 0) := rfl
theorem f134_22 : gFetch 134 22 = some (.invokevirtual 59, 3, 167, 2) := rfl
theorem f134_25 : gFetch 134 25 = some (.checkcast 63, 3, 8, 0) := rfl
theorem f134_28 : gFetch 134 28 = some (.getfield 65, 3, 8, 4) := rfl
theorem f134_31 : gFetch 134 31 = some (.invokestatic 81, 3, 157, 2) := rfl
theorem f134_34 : gFetch 134 34 = some (.istore_n 1, 1, 0, 0) := rfl
theorem f134_35 : gFetch 134 35 = some (.iinc 2 1, 3, 0, 0) := rfl
theorem f134_38 : gFetch 134 38 = some (.goto (-33), 3, 5, 0) := rfl
theorem f134_41 : gFetch 134 41 = some (.iload_n 1, 1, 0, 0) := rfl
theorem f134_42 : gFetch 134 42 = some (.ireturn, 1, 0, 0) := rfl
theorem f135_0 : gFetch 135 0 = some (.bipush 100, 2, 0, 0) := rfl
theorem f135_2 : gFetch 135 2 = some (.istore_n 1, 1, 0, 0) := rfl
theorem f135_3 : gFetch 135 3 = some (.iconst 0, 1, 0, 0) := rfl
theorem f135_4 : gFetch 135 4 = some (.istore_n 2, 1, 0, 0) := rfl
theorem f135_5 : gFetch 135 5 = some (.iload_n 2, 1, 0, 0) := rfl
theorem f135_6 : gFetch 135 6 = some (.aload_n 0, 1, 0, 0) := rfl
theorem f135_7 : gFetch 135 7 = some (.getfield 12, 3, 7, 2) := rfl
theorem f135_10 : gFetch 135 10 = some (.invokevirtual 56, 3, 173, 1) := rfl
theorem f135_13 : gFetch 135 13 = some (.if_icmp .ge 32, 3, 45, 0) := rfl
theorem f135_16 : gFetch 135 16 = some (.iload_n 1, 1, 0, 0) := rfl
theorem f135_17 : gFetch 135 17 = some (.aload_n 0, 1, 0, 0) := rfl
theorem f135_18 : gFetch 135 18 = some (.getfield 12, 3, 7, 2) := rfl
theorem f135_21 : gFetch 135 21 = some (.iload_n 2, 1, 0, 0) := rfl
theorem f135_22 : gFetch 135 22 = some (.invokevirtual 59, 3, 167, 2) := rfl
theorem f135_25 : gFetch 135 25 = some (.checkcast 63, 3, 8, 0) := rfl
theorem f135_28 : gFetch 135 28 = some (.aload_n 0, 1, 0, 0) := rfl
theorem f135_29 : gFetch 135 29 = some (.getfield 21, 3, 7, 5) := rfl
theorem f135_32 : gFetch 135 32 = some (.invokevirtual 92, 3, 145, 2) := rfl
theorem f135_35 : gFetch 135 35 = some (.invokestatic 81, 3, 157, 2) := rfl
theorem f135_38 : gFetch 135 38 = some (.istore_n 1, 1, 0, 0) := rfl
theorem f135_39 : gFetch 135 39 = some (.iinc 2 1, 3, 0, 0) := rfl
theorem f135_42 : gFetch 135 42 = some (.goto (-37), 3, 5, 0) := rfl
theorem f135_45 : gFetch 135 45 = some (.iload_n 1, 1, 0, 0) := rfl
theorem f135_46 : gFetch 135 46 = some (.ireturn, 1, 0, 0) := rfl
theorem f136_0 : gFetch 136 0 = some (.aload_n 0, 1, 0, 0) := rfl
theorem f136_1 : gFetch 136 1 = some (.invokespecial 3, 3, 900, 1) := rfl
theorem f136_4 : gFetch 136 4 = some (.aload_n 0, 1, 0, 0) := rfl
theorem f136_5 : gFetch 136 5 = some (.iload_n 1, 1, 0, 0) := rfl
theorem f136_6 : gFetch 136 6 = some (.putfield 9, 3, 8, 0) := rfl
theorem f136_9 : gFetch 136 9 = some (.aload_n 0, 1, 0, 0) := rfl
theorem f136_10 : gFetch 136 10 = some (.iload_n 2, 1, 0, 0) := rfl
theorem f136_11 : gFetch 136 11 = some (.putfield 15, 3, 8, 1) := rfl
theorem f136_14 : gFetch 136 14 = some (.aload_n 0, 1, 0, 0) := rfl
theorem f136_15 : gFetch 136 15 = some (.aload_n 3, 1, 0, 0) := rfl
theorem f136_16 : gFetch 136 16 = some (.putfield 19, 3, 8, 2) := rfl
theorem f136_19 : gFetch 136 19 = some (.aload_n 0, 1, 0, 0) := rfl
theorem f136_20 : gFetch 136 20 = some (.aload 4, 2, 0, 0) := rfl
theorem f136_22 : gFetch 136 22 = some (.putfield 23, 3, 8, 3) := rfl
theorem f136_25 : gFetch 136 25 = some (.aload_n 0, 1, 0, 0) := rfl
theorem f136_26 : gFetch 136 26 = some (.aload_n 3, 1, 0, 0) := rfl
theorem f136_27 : gFetch 136 27 = some (.invokestatic 26, 3, 146, 1) := rfl
theorem f136_30 : gFetch 136 30 = some (.aload 4, 2, 0, 0) := rfl
theorem f136_32 : gFetch 136 32 = some (.invokestatic 26, 3, 146, 1) := rfl
theorem f136_35 : gFetch 136 35 = some (.invokestatic 30, 3, 157, 2) := rfl
theorem f136_38 : gFetch 136 38 = some (.putfield 36, 3, 8, 4) := rfl
theorem f136_41 : gFetch 136 41 = some (.aload_n 0, 1, 0, 0) := rfl
theorem f136_42 : gFetch 136 42 = some (.aload_n 3, 1, 0, 0) := rfl
theorem f136_43 : gFetch 136 43 = some (.invokestatic 39, 3, 142, 1) := rfl
theorem f136_46 : gFetch 136 46 = some (.aload 4, 2, 0, 0) := rfl
theorem f136_48 : gFetch 136 48 = some (.invokestatic 39, 3, 142, 1) := rfl
theorem f136_51 : gFetch 136 51 = some (.invokestatic 42, 3, 156, 2) := rfl
theorem f136_54 : gFetch 136 54 = some (.putfield 45, 3, 8, 5) := rfl
theorem f136_57 : gFetch 136 57 = some (.aload_n 0, 1, 0, 0) := rfl
theorem f136_58 : gFetch 136 58 = some (.aload_n 3, 1, 0, 0) := rfl
theorem f136_59 : gFetch 136 59 = some (.invokestatic 48, 3, 141, 1) := rfl
theorem f136_62 : gFetch 136 62 = some (.putfield 52, 3, 8, 6) := rfl
theorem f136_65 : gFetch 136 65 = some (.return_, 1, 0, 0) := rfl
theorem f137_0 : gFetch 137 0 = some (.aload_n 0, 1, 0, 0) := rfl
theorem f137_1 : gFetch 137 1 = some (.iload_n 1, 1, 0, 0) := rfl
theorem f137_2 : gFetch 137 2 = some (.iload_n 1, 1, 0, 0) := rfl
theorem f137_3 : gFetch 137 3 = some (.invokevirtual 82, 3, 102, 3) := rfl
theorem f137_6 : gFetch 137 6 = some (.ifCond .ne 4, 3, 10, 0) := rfl
theorem f137_9 : gFetch 137 9 = some (.return_, 1, 0, 0) := rfl
theorem f137_10 : gFetch 137 10 = some (.iconst 0, 1, 0, 0) := rfl
theorem f137_11 : gFetch 137 11 = some (.istore_n 3, 1, 0, 0) := rfl
theorem f137_12 : gFetch 137 12 = some (.iload_n 3, 1, 0, 0) := rfl
theorem f137_13 : gFetch 137 13 = some (.aload_n 2, 1, 0, 0) := rfl
theorem f137_14 : gFetch 137 14 = some (.invokevirtual 56, 3, 173, 1) := rfl
theorem f137_17 : gFetch 137 17 = some (.if_icmp .ge 27, 3, 44, 0) := rfl
theorem f137_20 : gFetch 137 20 = some (.aload_n 2, 1, 0, 0) := rfl
theorem f137_21 : gFetch 137 21 = some (.iload_n 3, 1, 0, 0) := rfl
theorem f137_22 : gFetch 137 22 = some (.invokevirtual 62, 3, 167, 2) := rfl
theorem f137_25 : gFetch 137 25 = some (.checkcast 66, 3, 2, 0) := rfl
theorem f137_28 : gFetch 137 28 = some (.getfield 86, 3, 2, 1) := rfl
theorem f137_31 : gFetch 137 31 = some (.aload_n 0, 1, 0, 0) := rfl
theorem f137_32 : gFetch 137 32 = some (.getfield 86, 3, 2, 1) := rfl
theorem f137_35 : gFetch 137 35 = some (.if_icmp .le 9, 3, 44, 0) := rfl
theorem f137_38 : gFetch 137 38 = some (.iinc 3 1, 3, 0, 0) := rfl
theorem f137_41 : gFetch 137 41 = some (.goto (-29), 3, 12, 0) := rfl
theorem f137_44 : gFetch 137 44 = some (.aload_n 2, 1, 0, 0) := rfl
theorem f137_45 : gFetch 137 45 = some (.iload_n 3, 1, 0, 0) := rfl
theorem f137_46 : gFetch 137 46 = some (.aload_n 0, 1, 0, 0) := rfl
theorem f137_47 : gFetch 137 47 = some (.invokevirtual 89, 3, 161, 3) := rfl
theorem f137_50 : gFetch 137 50 = some (.return_, 1, 0, 0) := rfl
theorem f138_0 : gFetch 138 0 = some (.iload_n 2, 1, 0, 0) := rfl
theorem f138_1 : gFetch 138 1 = some (.iconst 1, 1, 0, 0) := rfl
theorem f138_2 : gFetch 138 2 = some (.if_icmp .ge 5, 3, 7, 0) := rfl
theorem f138_5 : gFetch 138 5 = some (.iconst (-1), 1, 0, 0) := rfl
theorem f138_6 : gFetch 138 6 = some (.ireturn, 1, 0, 0) := rfl
theorem f138_7 : gFetch 138 7 = some (.iload_n 1, 1, 0, 0) := rfl
theorem f138_8 : gFetch 138 8 = some (.lookupswitch 48 #[(0, 28), (1, 37)], 28, 0, 0) := rfl
theorem f138_36 : gFetch 138 36 = some (.iload_n 0, 1, 0, 0) := rfl
theorem f138_37 : gFetch 138 37 = some (.iconst 1, 1, 0, 0) := rfl
theorem f138_38 : gFetch 138 38 = some (.iadd, 1, 0, 0) := rfl
theorem f138_39 : gFetch 138 39 = some (.bipush 7, 2, 0, 0) := rfl
theorem f138_41 : gFetch 138 41 = some (.imul, 1, 0, 0) := rfl
theorem f138_42 : gFetch 138 42 = some (.iload_n 2, 1, 0, 0) := rfl
theorem f138_43 : gFetch 138 43 = some (.irem, 1, 0, 0) := rfl
theorem f138_44 : gFetch 138 44 = some (.ireturn, 1, 0, 0) := rfl
theorem f138_45 : gFetch 138 45 = some (.iload_n 0, 1, 0, 0) := rfl
theorem f138_46 : gFetch 138 46 = some (.iconst 1, 1, 0, 0) := rfl
theorem f138_47 : gFetch 138 47 = some (.iadd, 1, 0, 0) := rfl
theorem f138_48 : gFetch 138 48 = some (.bipush 11, 2, 0, 0) := rfl
theorem f138_50 : gFetch 138 50 = some (.imul, 1, 0, 0) := rfl
theorem f138_51 : gFetch 138 51 = some (.iconst 1, 1, 0, 0) := rfl
theorem f138_52 : gFetch 138 52 = some (.iadd, 1, 0, 0) := rfl
theorem f138_53 : gFetch 138 53 = some (.iload_n 2, 1, 0, 0) := rfl
theorem f138_54 : gFetch 138 54 = some (.irem, 1, 0, 0) := rfl
theorem f138_55 : gFetch 138 55 = some (.ireturn, 1, 0, 0) := rfl
theorem f138_56 : gFetch 138 56 = some (.iload_n 0, 1, 0, 0) := rfl
theorem f138_57 : gFetch 138 57 = some (.iconst 1, 1, 0, 0) := rfl
theorem f138_58 : gFetch 138 58 = some (.iadd, 1, 0, 0) := rfl
theorem f138_59 : gFetch 138 59 = some (.bipush 13, 2, 0, 0) := rfl
theorem f138_61 : gFetch 138 61 = some (.imul, 1, 0, 0) := rfl
theorem f138_62 : gFetch 138 62 = some (.iconst 2, 1, 0, 0) := rfl
theorem f138_63 : gFetch 138 63 = some (.iadd, 1, 0, 0) := rfl
theorem f138_64 : gFetch 138 64 = some (.iload_n 2, 1, 0, 0) := rfl
theorem f138_65 : gFetch 138 65 = some (.irem, 1, 0, 0) := rfl
theorem f138_66 : gFetch 138 66 = some (.ireturn, 1, 0, 0) := rfl
theorem f139_0 : gFetch 139 0 = some (.iconst 0, 1, 0, 0) := rfl
theorem f139_1 : gFetch 139 1 = some (.istore_n 3, 1, 0, 0) := rfl
theorem f139_2 : gFetch 139 2 = some (.iload_n 3, 1, 0, 0) := rfl
theorem f139_3 : gFetch 139 3 = some (.aload_n 0, 1, 0, 0) := rfl
theorem f139_4 : gFetch 139 4 = some (.getfield 19, 3, 8, 2) := rfl
theorem f139_7 : gFetch 139 7 = some (.invokevirtual 56, 3, 173, 1) := rfl
theorem f139_10 : gFetch 139 10 = some (.if_icmp .ge 25, 3, 35, 0) := rfl
theorem f139_13 : gFetch 139 13 = some (.aload_n 0, 1, 0, 0) := rfl
theorem f139_14 : gFetch 139 14 = some (.getfield 19, 3, 8, 2) := rfl
theorem f139_17 : gFetch 139 17 = some (.iload_n 3, 1, 0, 0) := rfl
theorem f139_18 : gFetch 139 18 = some (.invokevirtual 62, 3, 167, 2) := rfl
theorem f139_21 : gFetch 139 21 = some (.checkcast 66, 3, 2, 0) := rfl
theorem f139_24 : gFetch 139 24 = some (.iload_n 1, 1, 0, 0) := rfl
theorem f139_25 : gFetch 139 25 = some (.aload_n 2, 1, 0, 0) := rfl
theorem f139_26 : gFetch 139 26 = some (.invokestatic 78, 3, 137, 3) := rfl
theorem f139_29 : gFetch 139 29 = some (.iinc 3 1, 3, 0, 0) := rfl
theorem f139_32 : gFetch 139 32 = some (.goto (-30), 3, 2, 0) := rfl
theorem f139_35 : gFetch 139 35 = some (.iconst 0, 1, 0, 0) := rfl
theorem f139_36 : gFetch 139 36 = some (.istore_n 3, 1, 0, 0) := rfl
theorem f139_37 : gFetch 139 37 = some (.iload_n 3, 1, 0, 0) := rfl
theorem f139_38 : gFetch 139 38 = some (.aload_n 0, 1, 0, 0) := rfl
theorem f139_39 : gFetch 139 39 = some (.getfield 23, 3, 8, 3) := rfl
theorem f139_42 : gFetch 139 42 = some (.invokevirtual 56, 3, 173, 1) := rfl
theorem f139_45 : gFetch 139 45 = some (.if_icmp .ge 25, 3, 70, 0) := rfl
theorem f139_48 : gFetch 139 48 = some (.aload_n 0, 1, 0, 0) := rfl
theorem f139_49 : gFetch 139 49 = some (.getfield 23, 3, 8, 3) := rfl
theorem f139_52 : gFetch 139 52 = some (.iload_n 3, 1, 0, 0) := rfl
theorem f139_53 : gFetch 139 53 = some (.invokevirtual 62, 3, 167, 2) := rfl
theorem f139_56 : gFetch 139 56 = some (.checkcast 66, 3, 2, 0) := rfl
theorem f139_59 : gFetch 139 59 = some (.iload_n 1, 1, 0, 0) := rfl
theorem f139_60 : gFetch 139 60 = some (.aload_n 2, 1, 0, 0) := rfl
theorem f139_61 : gFetch 139 61 = some (.invokestatic 78, 3, 137, 3) := rfl
theorem f139_64 : gFetch 139 64 = some (.iinc 3 1, 3, 0, 0) := rfl
theorem f139_67 : gFetch 139 67 = some (.goto (-30), 3, 37, 0) := rfl
theorem f139_70 : gFetch 139 70 = some (.return_, 1, 0, 0) := rfl
theorem f140_0 : gFetch 140 0 = some (.iconst 0, 1, 0, 0) := rfl
theorem f140_1 : gFetch 140 1 = some (.istore_n 2, 1, 0, 0) := rfl
theorem f140_2 : gFetch 140 2 = some (.iconst (-1), 1, 0, 0) := rfl
theorem f140_3 : gFetch 140 3 = some (.istore_n 3, 1, 0, 0) := rfl
theorem f140_4 : gFetch 140 4 = some (.iconst 0, 1, 0, 0) := rfl
theorem f140_5 : gFetch 140 5 = some (.istore 4, 2, 0, 0) := rfl
theorem f140_7 : gFetch 140 7 = some (.iload 4, 2, 0, 0) := rfl
theorem f140_9 : gFetch 140 9 = some (.aload_n 0, 1, 0, 0) := rfl
theorem f140_10 : gFetch 140 10 = some (.getfield 19, 3, 8, 2) := rfl
theorem f140_13 : gFetch 140 13 = some (.invokevirtual 56, 3, 173, 1) := rfl
theorem f140_16 : gFetch 140 16 = some (.if_icmp .ge 46, 3, 62, 0) := rfl
theorem f140_19 : gFetch 140 19 = some (.iload 4, 2, 0, 0) := rfl
theorem f140_21 : gFetch 140 21 = some (.iconst 4, 1, 0, 0) := rfl
theorem f140_22 : gFetch 140 22 = some (.idiv, 1, 0, 0) := rfl
theorem f140_23 : gFetch 140 23 = some (.istore 5, 2, 0, 0) := rfl
theorem f140_25 : gFetch 140 25 = some (.aload_n 0, 1, 0, 0) := rfl
theorem f140_26 : gFetch 140 26 = some (.getfield 19, 3, 8, 2) := rfl
theorem f140_29 : gFetch 140 29 = some (.iload 4, 2, 0, 0) := rfl
theorem f140_31 : gFetch 140 31 = some (.invokevirtual 62, 3, 167, 2) := rfl
theorem f140_34 : gFetch 140 34 = some (.checkcast 66, 3, 2, 0) := rfl
theorem f140_37 : gFetch 140 37 = some (.getfield 68, 3, 2, 2) := rfl
theorem f140_40 : gFetch 140 40 = some (.iload_n 1, 1, 0, 0) := rfl
theorem f140_41 : gFetch 140 41 = some (.if_icmp .ne 15, 3, 56, 0) := rfl
theorem f140_44 : gFetch 140 44 = some (.iload 5, 2, 0, 0) := rfl
theorem f140_46 : gFetch 140 46 = some (.iload_n 3, 1, 0, 0) := rfl
theorem f140_47 : gFetch 140 47 = some (.if_icmp .eq 9, 3, 56, 0) := rfl
theorem f140_50 : gFetch 140 50 = some (.iload 5, 2, 0, 0) := rfl
theorem f140_52 : gFetch 140 52 = some (.istore_n 3, 1, 0, 0) := rfl
theorem f140_53 : gFetch 140 53 = some (.iinc 2 1, 3, 0, 0) := rfl
theorem f140_56 : gFetch 140 56 = some (.iinc 4 1, 3, 0, 0) := rfl
theorem f140_59 : gFetch 140 59 = some (.goto (-52), 3, 7, 0) := rfl
theorem f140_62 : gFetch 140 62 = some (.iload_n 2, 1, 0, 0) := rfl
theorem f140_63 : gFetch 140 63 = some (.ireturn, 1, 0, 0) := rfl
theorem f141_0 : gFetch 141 0 = some (.iconst 0, 1, 0, 0) := rfl
theorem f141_1 : gFetch 141 1 = some (.istore_n 1, 1, 0, 0) := rfl
theorem f141_2 : gFetch 141 2 = some (.iconst 0, 1, 0, 0) := rfl
theorem f141_3 : gFetch 141 3 = some (.istore_n 2, 1, 0, 0) := rfl
theorem f141_4 : gFetch 141 4 = some (.iload_n 2, 1, 0, 0) := rfl
theorem f141_5 : gFetch 141 5 = some (.aload_n 0, 1, 0, 0) := rfl
theorem f141_6 : gFetch 141 6 = some (.invokevirtual 56, 3, 173, 1) := rfl
theorem f141_9 : gFetch 141 9 = some (.if_icmp .ge 43, 3, 52, 0) := rfl
theorem f141_12 : gFetch 141 12 = some (.iload_n 2, 1, 0, 0) := rfl
theorem f141_13 : gFetch 141 13 = some (.ifCond .eq 30, 3, 43, 0) := rfl
theorem f141_16 : gFetch 141 16 = some (.aload_n 0, 1, 0, 0) := rfl
theorem f141_17 : gFetch 141 17 = some (.iload_n 2, 1, 0, 0) := rfl
theorem f141_18 : gFetch 141 18 = some (.invokevirtual 62, 3, 167, 2) := rfl
theorem f141_21 : gFetch 141 21 = some (.checkcast 66, 3, 2, 0) := rfl
theorem f141_24 : gFetch 141 24 = some (.getfield 68, 3, 2, 2) := rfl
theorem f141_27 : gFetch 141 27 = some (.aload_n 0, 1, 0, 0) := rfl
theorem f141_28 : gFetch 141 28 = some (.iload_n 2, 1, 0, 0) := rfl
theorem f141_29 : gFetch 141 29 = some (.iconst 1, 1, 0, 0) := rfl
theorem f141_30 : gFetch 141 30 = some (.isub, 1, 0, 0) := rfl
theorem f141_31 : gFetch 141 31 = some (.invokevirtual 62, 3, 167, 2) := rfl
theorem f141_34 : gFetch 141 34 = some (.checkcast 66, 3, 2, 0) := rfl
theorem f141_37 : gFetch 141 37 = some (.getfield 68, 3, 2, 2) := rfl
theorem f141_40 : gFetch 141 40 = some (.if_icmp .eq 6, 3, 46, 0) := rfl
theorem f141_43 : gFetch 141 43 = some (.iinc 1 1, 3, 0, 0) := rfl
theorem f141_46 : gFetch 141 46 = some (.iinc 2 1, 3, 0, 0) := rfl
theorem f141_49 : gFetch 141 49 = some (.goto (-45), 3, 4, 0) := rfl
theorem f141_52 : gFetch 141 52 = some (.iload_n 1, 1, 0, 0) := rfl
theorem f141_53 : gFetch 141 53 = some (.bipush 8, 2, 0, 0) := rfl
theorem f141_55 : gFetch 141 55 = some (.imul, 1, 0, 0) := rfl
theorem f141_56 : gFetch 141 56 = some (.newarray .boolean, 2, 0, 0) := rfl
theorem f141_58 : gFetch 141 58 = some (.astore_n 2, 1, 0, 0) := rfl
theorem f141_59 : gFetch 141 59 = some (.iconst 0, 1, 0, 0) := rfl
theorem f141_60 : gFetch 141 60 = some (.istore_n 3, 1, 0, 0) := rfl
theorem f141_61 : gFetch 141 61 = some (.iload_n 3, 1, 0, 0) := rfl
theorem f141_62 : gFetch 141 62 = some (.aload_n 0, 1, 0, 0) := rfl
theorem f141_63 : gFetch 141 63 = some (.invokevirtual 56, 3, 173, 1) := rfl
theorem f141_66 : gFetch 141 66 = some (.if_icmp .ge 61, 3, 127, 0) := rfl
theorem f141_69 : gFetch 141 69 = some (.iconst 0, 1, 0, 0) := rfl
theorem f141_70 : gFetch 141 70 = some (.istore 4, 2, 0, 0) := rfl
theorem f141_72 : gFetch 141 72 = some (.iload 4, 2, 0, 0) := rfl
theorem f141_74 : gFetch 141 74 = some (.iconst 3, 1, 0, 0) := rfl
theorem f141_75 : gFetch 141 75 = some (.if_icmp .ge 46, 3, 121, 0) := rfl
theorem f141_78 : gFetch 141 78 = some (.aload_n 0, 1, 0, 0) := rfl
theorem f141_79 : gFetch 141 79 = some (.iload_n 3, 1, 0, 0) := rfl
theorem f141_80 : gFetch 141 80 = some (.invokevirtual 62, 3, 167, 2) := rfl
theorem f141_83 : gFetch 141 83 = some (.checkcast 66, 3, 2, 0) := rfl
theorem f141_86 : gFetch 141 86 = some (.getfield 68, 3, 2, 2) := rfl
theorem f141_89 : gFetch 141 89 = some (.iload 4, 2, 0, 0) := rfl
theorem f141_91 : gFetch 141 91 = some (.aload_n 2, 1, 0, 0) := rfl
theorem f141_92 : gFetch 141 92 = some (.arraylength, 1, 0, 0) := rfl
theorem f141_93 : gFetch 141 93 = some (.invokestatic 74, 3, 138, 3) := rfl
theorem f141_96 : gFetch 141 96 = some (.istore 5, 2, 0, 0) := rfl
theorem f141_98 : gFetch 141 98 = some (.iload 5, 2, 0, 0) := rfl
theorem f141_100 : gFetch 141 100 = some (.ifCond .lt 15, 3, 115, 0) := rfl
theorem f141_103 : gFetch 141 103 = some (.iload 5, 2, 0, 0) := rfl
theorem f141_105 : gFetch 141 105 = some (.aload_n 2, 1, 0, 0) := rfl
theorem f141_106 : gFetch 141 106 = some (.arraylength, 1, 0, 0) := rfl
theorem f141_107 : gFetch 141 107 = some (.if_icmp .ge 8, 3, 115, 0) := rfl
theorem f141_110 : gFetch 141 110 = some (.aload_n 2, 1, 0, 0) := rfl
theorem f141_111 : gFetch 141 111 = some (.iload 5, 2, 0, 0) := rfl
theorem f141_113 : gFetch 141 113 = some (.iconst 1, 1, 0, 0) := rfl
theorem f141_114 : gFetch 141 114 = some (.bastore, 1, 0, 0) := rfl
theorem f141_115 : gFetch 141 115 = some (.iinc 4 1, 3, 0, 0) := rfl
theorem f141_118 : gFetch 141 118 = some (.goto (-46), 3, 72, 0) := rfl
theorem f141_121 : gFetch 141 121 = some (.iinc 3 1, 3, 0, 0) := rfl
theorem f141_124 : gFetch 141 124 = some (.goto (-63), 3, 61, 0) := rfl
theorem f141_127 : gFetch 141 127 = some (.aload_n 2, 1, 0, 0) := rfl
theorem f141_128 : gFetch 141 128 = some (.areturn, 1, 0, 0) := rfl
theorem f142_0 : gFetch 142 0 = some (.iconst (-1), 1, 0, 0) := rfl
theorem f142_1 : gFetch 142 1 = some (.istore_n 1, 1, 0, 0) := rfl
theorem f142_2 : gFetch 142 2 = some (.iconst 0, 1, 0, 0) := rfl
theorem f142_3 : gFetch 142 3 = some (.istore_n 2, 1, 0, 0) := rfl
theorem f142_4 : gFetch 142 4 = some (.iload_n 2, 1, 0, 0) := rfl
theorem f142_5 : gFetch 142 5 = some (.aload_n 0, 1, 0, 0) := rfl
theorem f142_6 : gFetch 142 6 = some (.invokevirtual 56, 3, 173, 1) := rfl
theorem f142_9 : gFetch 142 9 = some (.if_icmp .ge 25, 3, 34, 0) := rfl
theorem f142_12 : gFetch 142 12 = some (.iload_n 1, 1, 0, 0) := rfl
theorem f142_13 : gFetch 142 13 = some (.aload_n 0, 1, 0, 0) := rfl
theorem f142_14 : gFetch 142 14 = some (.iload_n 2, 1, 0, 0) := rfl
theorem f142_15 : gFetch 142 15 = some (.invokevirtual 62, 3, 167, 2) := rfl
theorem f142_18 : gFetch 142 18 = some (.checkcast 66, 3, 2, 0) := rfl
theorem f142_21 : gFetch 142 21 = some (.getfield 71, 3, 2, 3) := rfl
theorem f142_24 : gFetch 142 24 = some (.invokestatic 42, 3, 156, 2) := rfl
theorem f142_27 : gFetch 142 27 = some (.istore_n 1, 1, 0, 0) := rfl
theorem f142_28 : gFetch 142 28 = some (.iinc 2 1, 3, 0, 0) := rfl
theorem f142_31 : gFetch 142 31 = some (.goto (-27), 3, 4, 0) := rfl
theorem f142_34 : gFetch 142 34 = some (.iload_n 1, 1, 0, 0) := rfl
theorem f142_35 : gFetch 142 35 = some (.ireturn, 1, 0, 0) := rfl
theorem f143_0 : gFetch 143 0 = some (.aload_n 0, 1, 0, 0) := rfl
theorem f143_1 : gFetch 143 1 = some (.getfield 15, 3, 8, 1) := rfl
theorem f143_4 : gFetch 143 4 = some (.ifCond .eq 25, 3, 29, 0) := rfl
theorem f143_7 : gFetch 143 7 = some (.aload_n 0, 1, 0, 0) := rfl
theorem f143_8 : gFetch 143 8 = some (.getfield 19, 3, 8, 2) := rfl
theorem f143_11 : gFetch 143 11 = some (.invokevirtual 56, 3, 173, 1) := rfl
theorem f143_14 : gFetch 143 14 = some (.bipush 6, 2, 0, 0) := rfl
theorem f143_16 : gFetch 143 16 = some (.if_icmp .le 13, 3, 29, 0) := rfl
theorem f143_19 : gFetch 143 19 = some (.aload_n 0, 1, 0, 0) := rfl
theorem f143_20 : gFetch 143 20 = some (.getfield 52, 3, 8, 6) := rfl
theorem f143_23 : gFetch 143 23 = some (.arraylength, 1, 0, 0) := rfl
theorem f143_24 : gFetch 143 24 = some (.bipush 8, 2, 0, 0) := rfl
theorem f143_26 : gFetch 143 26 = some (.if_icmp .gt 7, 3, 33, 0) := rfl
theorem f143_29 : gFetch 143 29 = some (.iconst 1, 1, 0, 0) := rfl
theorem f143_30 : gFetch 143 30 = some (.goto 4, 3, 34, 0) := rfl
theorem f143_33 : gFetch 143 33 = some (.iconst 0, 1, 0, 0) := rfl
theorem f143_34 : gFetch 143 34 = some (.ireturn, 1, 0, 0) := rfl
theorem f144_0 : gFetch 144 0 = some (.iconst 0, 1, 0, 0) := rfl
theorem f144_1 : gFetch 144 1 = some (.istore_n 2, 1, 0, 0) := rfl
theorem f144_2 : gFetch 144 2 = some (.iload_n 2, 1, 0, 0) := rfl
theorem f144_3 : gFetch 144 3 = some (.iconst 3, 1, 0, 0) := rfl
theorem f144_4 : gFetch 144 4 = some (.if_icmp .ge 44, 3, 48, 0) := rfl
theorem f144_7 : gFetch 144 7 = some (.iload_n 1, 1, 0, 0) := rfl
theorem f144_8 : gFetch 144 8 = some (.iload_n 2, 1, 0, 0) := rfl
theorem f144_9 : gFetch 144 9 = some (.aload_n 0, 1, 0, 0) := rfl
theorem f144_10 : gFetch 144 10 = some (.getfield 52, 3, 8, 6) := rfl
theorem f144_13 : gFetch 144 13 = some (.arraylength, 1, 0, 0) := rfl
theorem f144_14 : gFetch 144 14 = some (.invokestatic 74, 3, 138, 3) := rfl
theorem f144_17 : gFetch 144 17 = some (.istore_n 3, 1, 0, 0) := rfl
theorem f144_18 : gFetch 144 18 = some (.iload_n 3, 1, 0, 0) := rfl
theorem f144_19 : gFetch 144 19 = some (.ifCond .lt 21, 3, 40, 0) := rfl
theorem f144_22 : gFetch 144 22 = some (.iload_n 3, 1, 0, 0) := rfl
theorem f144_23 : gFetch 144 23 = some (.aload_n 0, 1, 0, 0) := rfl
theorem f144_24 : gFetch 144 24 = some (.getfield 52, 3, 8, 6) := rfl
theorem f144_27 : gFetch 144 27 = some (.arraylength, 1, 0, 0) := rfl
theorem f144_28 : gFetch 144 28 = some (.if_icmp .ge 12, 3, 40, 0) := rfl
theorem f144_31 : gFetch 144 31 = some (.aload_n 0, 1, 0, 0) := rfl
theorem f144_32 : gFetch 144 32 = some (.getfield 52, 3, 8, 6) := rfl
theorem f144_35 : gFetch 144 35 = some (.iload_n 3, 1, 0, 0) := rfl
theorem f144_36 : gFetch 144 36 = some (.baload, 1, 0, 0) := rfl
theorem f144_37 : gFetch 144 37 = some (.ifCond .ne 5, 3, 42, 0) := rfl
theorem f144_40 : gFetch 144 40 = some (.iconst 0, 1, 0, 0) := rfl
theorem f144_41 : gFetch 144 41 = some (.ireturn, 1, 0, 0) := rfl
theorem f144_42 : gFetch 144 42 = some (.iinc 2 1, 3, 0, 0) := rfl
theorem f144_45 : gFetch 144 45 = some (.goto (-43), 3, 2, 0) := rfl
theorem f144_48 : gFetch 144 48 = some (.iconst 1, 1, 0, 0) := rfl
theorem f144_49 : gFetch 144 49 = some (.ireturn, 1, 0, 0) := rfl
theorem f145_0 : gFetch 145 0 = some (.iconst 0, 1, 0, 0) := rfl
theorem f145_1 : gFetch 145 1 = some (.istore_n 2, 1, 0, 0) := rfl
theorem f145_2 : gFetch 145 2 = some (.iload_n 2, 1, 0, 0) := rfl
theorem f145_3 : gFetch 145 3 = some (.aload_n 0, 1, 0, 0) := rfl
theorem f145_4 : gFetch 145 4 = some (.getfield 19, 3, 8, 2) := rfl
theorem f145_7 : gFetch 145 7 = some (.invokevirtual 56, 3, 173, 1) := rfl
theorem f145_10 : gFetch 145 10 = some (.if_icmp .ge 42, 3, 52, 0) := rfl
theorem f145_13 : gFetch 145 13 = some (.aload_n 0, 1, 0, 0) := rfl
theorem f145_14 : gFetch 145 14 = some (.getfield 19, 3, 8, 2) := rfl
theorem f145_17 : gFetch 145 17 = some (.iload_n 2, 1, 0, 0) := rfl
theorem f145_18 : gFetch 145 18 = some (.invokevirtual 62, 3, 167, 2) := rfl
theorem f145_21 : gFetch 145 21 = some (.checkcast 66, 3, 2, 0) := rfl
theorem f145_24 : gFetch 145 24 = some (.getfield 68, 3, 2, 2) := rfl
theorem f145_27 : gFetch 145 27 = some (.iload_n 1, 1, 0, 0) := rfl
theorem f145_28 : gFetch 145 28 = some (.if_icmp .le 18, 3, 46, 0) := rfl
theorem f145_31 : gFetch 145 31 = some (.aload_n 0, 1, 0, 0) := rfl
theorem f145_32 : gFetch 145 32 = some (.getfield 19, 3, 8, 2) := rfl
theorem f145_35 : gFetch 145 35 = some (.iload_n 2, 1, 0, 0) := rfl
theorem f145_36 : gFetch 145 36 = some (.invokevirtual 62, 3, 167, 2) := rfl
theorem f145_39 : gFetch 145 39 = some (.checkcast 66, 3, 2, 0) := rfl
theorem f145_42 : gFetch 145 42 = some (.getfield 68, 3, 2, 2) := rfl
theorem f145_45 : gFetch 145 45 = some (.ireturn, 1, 0, 0) := rfl
theorem f145_46 : gFetch 145 46 = some (.iinc 2 1, 3, 0, 0) := rfl
theorem f145_49 : gFetch 145 49 = some (.goto (-47), 3, 2, 0) := rfl
theorem f145_52 : gFetch 145 52 = some (.bipush 100, 2, 0, 0) := rfl
theorem f145_54 : gFetch 145 54 = some (.ireturn, 1, 0, 0) := rfl
theorem f146_0 : gFetch 146 0 = some (.bipush 100, 2, 0, 0) := rfl
theorem f146_2 : gFetch 146 2 = some (.istore_n 1, 1, 0, 0) := rfl
theorem f146_3 : gFetch 146 3 = some (.iconst 0, 1, 0, 0) := rfl
theorem f146_4 : gFetch 146 4 = some (.istore_n 2, 1, 0, 0) := rfl
theorem f146_5 : gFetch 146 5 = some (.iload_n 2, 1, 0, 0) := rfl
theorem f146_6 : gFetch 146 6 = some (.aload_n 0, 1, 0, 0) := rfl
theorem f146_7 : gFetch 146 7 = some (.invokevirtual 56, 3, 173, 1) := rfl
theorem f146_10 : gFetch 146 10 = some (.if_icmp .ge 25, 3, 35, 0) := rfl
theorem f146_13 : gFetch 146 13 = some (.iload_n 1, 1, 0, 0) := rfl
theorem f146_14 : gFetch 146 14 = some (.aload_n 0, 1, 0, 0) := rfl
theorem f146_15 : gFetch 146 15 = some (.iload_n 2, 1, 0, 0) := rfl
theorem f146_16 : gFetch 146 16 = some (.invokevirtual 62, 3, 167, 2) := rfl
theorem f146_19 : gFetch 146 19 = some (.checkcast 66, 3, 2, 0) := rfl
theorem f146_22 : gFetch 146 22 = some (.getfield 68, 3, 2, 2) := rfl
theorem f146_25 : gFetch 146 25 = some (.invokestatic 30, 3, 157, 2) := rfl
theorem f146_28 : gFetch 146 28 = some (.istore_n 1, 1, 0, 0) := rfl
theorem f146_29 : gFetch 146 29 = some (.iinc 2 1, 3, 0, 0) := rfl
theorem f146_32 : gFetch 146 32 = some (.goto (-27), 3, 5, 0) := rfl
theorem f146_35 : gFetch 146 35 = some (.iload_n 1, 1, 0, 0) := rfl
theorem f146_36 : gFetch 146 36 = some (.ireturn, 1, 0, 0) := rfl
theorem f147_0 : gFetch 147 0 = some (.aload_n 0, 1, 0, 0) := rfl
theorem f147_1 : gFetch 147 1 = some (.getfield 36, 3, 8, 4) := rfl
theorem f147_4 : gFetch 147 4 = some (.iload_n 2, 1, 0, 0) := rfl
theorem f147_5 : gFetch 147 5 = some (.if_icmp .gt 15, 3, 20, 0) := rfl
theorem f147_8 : gFetch 147 8 = some (.iload_n 1, 1, 0, 0) := rfl
theorem f147_9 : gFetch 147 9 = some (.aload_n 0, 1, 0, 0) := rfl
theorem f147_10 : gFetch 147 10 = some (.getfield 45, 3, 8, 5) := rfl
theorem f147_13 : gFetch 147 13 = some (.if_icmp .gt 7, 3, 20, 0) := rfl
theorem f147_16 : gFetch 147 16 = some (.iconst 1, 1, 0, 0) := rfl
theorem f147_17 : gFetch 147 17 = some (.goto 4, 3, 21, 0) := rfl
theorem f147_20 : gFetch 147 20 = some (.iconst 0, 1, 0, 0) := rfl
theorem f147_21 : gFetch 147 21 = some (.ireturn, 1, 0, 0) := rfl
theorem f148_0 : gFetch 148 0 = some (.aload_n 0, 1, 0, 0) := rfl
theorem f148_1 : gFetch 148 1 = some (.getfield 19, 3, 8, 2) := rfl
theorem f148_4 : gFetch 148 4 = some (.invokevirtual 56, 3, 173, 1) := rfl
theorem f148_7 : gFetch 148 7 = some (.aload_n 0, 1, 0, 0) := rfl
theorem f148_8 : gFetch 148 8 = some (.getfield 23, 3, 8, 3) := rfl
theorem f148_11 : gFetch 148 11 = some (.invokevirtual 56, 3, 173, 1) := rfl
theorem f148_14 : gFetch 148 14 = some (.iadd, 1, 0, 0) := rfl
theorem f148_15 : gFetch 148 15 = some (.ireturn, 1, 0, 0) := rfl
theorem f149_0 : gFetch 149 0 = some (.aload_n 0, 1, 0, 0) := rfl
theorem f149_1 : gFetch 149 1 = some (.invokespecial 1, 3, 900, 1) := rfl
theorem f149_4 : gFetch 149 4 = some (.aload_n 0, 1, 0, 0) := rfl
theorem f149_5 : gFetch 149 5 = some (.iload_n 1, 1, 0, 0) := rfl
theorem f149_6 : gFetch 149 6 = some (.putfield 7, 3, 9, 0) := rfl
theorem f149_9 : gFetch 149 9 = some (.aload_n 0, 1, 0, 0) := rfl
theorem f149_10 : gFetch 149 10 = some (.iload_n 2, 1, 0, 0) := rfl
theorem f149_11 : gFetch 149 11 = some (.putfield 13, 3, 9, 1) := rfl
theorem f149_14 : gFetch 149 14 = some (.return_, 1, 0, 0) := rfl
theorem f150_0 : gFetch 150 0 = some (.aload_n 0, 1, 0, 0) := rfl
theorem f150_1 : gFetch 150 1 = some (.invokespecial 3, 3, 900, 1) := rfl
theorem f150_4 : gFetch 150 4 = some (.aload_n 0, 1, 0, 0) := rfl
theorem f150_5 : gFetch 150 5 = some (.iload_n 1, 1, 0, 0) := rfl
theorem f150_6 : gFetch 150 6 = some (.putfield 9, 3, 10, 0) := rfl
theorem f150_9 : gFetch 150 9 = some (.aload_n 0, 1, 0, 0) := rfl
theorem f150_10 : gFetch 150 10 = some (.aload_n 2, 1, 0, 0) := rfl
theorem f150_11 : gFetch 150 11 = some (.putfield 15, 3, 10, 1) := rfl
theorem f150_14 : gFetch 150 14 = some (.aload_n 0, 1, 0, 0) := rfl
theorem f150_15 : gFetch 150 15 = some (.iload_n 3, 1, 0, 0) := rfl
theorem f150_16 : gFetch 150 16 = some (.putfield 19, 3, 10, 2) := rfl
theorem f150_19 : gFetch 150 19 = some (.aload_n 0, 1, 0, 0) := rfl
theorem f150_20 : gFetch 150 20 = some (.iload 4, 2, 0, 0) := rfl
theorem f150_22 : gFetch 150 22 = some (.putfield 22, 3, 10, 3) := rfl
theorem f150_25 : gFetch 150 25 = some (.return_, 1, 0, 0) := rfl
theorem f151_0 : gFetch 151 0 = some (.aload_n 0, 1, 0, 0) := rfl
theorem f151_1 : gFetch 151 1 = some (.getfield 19, 3, 10, 2) := rfl
theorem f151_4 : gFetch 151 4 = some (.ifCond .le 7, 3, 11, 0) := rfl
theorem f151_7 : gFetch 151 7 = some (.iconst 1, 1, 0, 0) := rfl
theorem f151_8 : gFetch 151 8 = some (.goto 4, 3, 12, 0) := rfl
theorem f151_11 : gFetch 151 11 = some (.iconst 0, 1, 0, 0) := rfl
theorem f151_12 : gFetch 151 12 = some (.ireturn, 1, 0, 0) := rfl
theorem f152_0 : gFetch 152 0 = some (.aload_n 0, 1, 0, 0) := rfl
theorem f152_1 : gFetch 152 1 = some (.getfield 22, 3, 10, 3) := rfl
theorem f152_4 : gFetch 152 4 = some (.iconst 1, 1, 0, 0) := rfl
theorem f152_5 : gFetch 152 5 = some (.if_icmp .eq 11, 3, 16, 0) := rfl
theorem f152_8 : gFetch 152 8 = some (.aload_n 0, 1, 0, 0) := rfl
theorem f152_9 : gFetch 152 9 = some (.getfield 22, 3, 10, 3) := rfl
theorem f152_12 : gFetch 152 12 = some (.iconst 2, 1, 0, 0) := rfl
theorem f152_13 : gFetch 152 13 = some (.if_icmp .ne 7, 3, 20, 0) := rfl
theorem f152_16 : gFetch 152 16 = some (.iconst 1, 1, 0, 0) := rfl
theorem f152_17 : gFetch 152 17 = some (.goto 4, 3, 21, 0) := rfl
theorem f152_20 : gFetch 152 20 = some (.iconst 0, 1, 0, 0) := rfl
theorem f152_21 : gFetch 152 21 = some (.ireturn, 1, 0, 0) := rfl
theorem f153_0 : gFetch 153 0 = some (.aload_n 0, 1, 0, 0) := rfl
theorem f153_1 : gFetch 153 1 = some (.getfield 9, 3, 10, 0) := rfl
theorem f153_4 : gFetch 153 4 = some (.aload_n 1, 1, 0, 0) := rfl
theorem f153_5 : gFetch 153 5 = some (.getfield 25, 3, 4, 0) := rfl
theorem f153_8 : gFetch 153 8 = some (.if_icmp .ne 14, 3, 22, 0) := rfl
theorem f153_11 : gFetch 153 11 = some (.aload_n 0, 1, 0, 0) := rfl
theorem f153_12 : gFetch 153 12 = some (.invokevirtual 30, 3, 152, 1) := rfl
theorem f153_15 : gFetch 153 15 = some (.ifCond .eq 7, 3, 22, 0) := rfl
theorem f153_18 : gFetch 153 18 = some (.iconst 1, 1, 0, 0) := rfl
theorem f153_19 : gFetch 153 19 = some (.goto 4, 3, 23, 0) := rfl
theorem f153_22 : gFetch 153 22 = some (.iconst 0, 1, 0, 0) := rfl
theorem f153_23 : gFetch 153 23 = some (.ireturn, 1, 0, 0) := rfl
theorem f154_0 : gFetch 154 0 = some (.aload_n 0, 1, 0, 0) := rfl
theorem f154_1 : gFetch 154 1 = some (.getfield 9, 3, 10, 0) := rfl
theorem f154_4 : gFetch 154 4 = some (.aload_n 1, 1, 0, 0) := rfl
theorem f154_5 : gFetch 154 5 = some (.getfield 25, 3, 4, 0) := rfl
theorem f154_8 : gFetch 154 8 = some (.if_icmp .ne 14, 3, 22, 0) := rfl
theorem f154_11 : gFetch 154 11 = some (.aload_n 0, 1, 0, 0) := rfl
theorem f154_12 : gFetch 154 12 = some (.getfield 22, 3, 10, 3) := rfl
theorem f154_15 : gFetch 154 15 = some (.ifCond .eq 7, 3, 22, 0) := rfl
theorem f154_18 : gFetch 154 18 = some (.iconst 1, 1, 0, 0) := rfl
theorem f154_19 : gFetch 154 19 = some (.goto 4, 3, 23, 0) := rfl
theorem f154_22 : gFetch 154 22 = some (.iconst 0, 1, 0, 0) := rfl
theorem f154_23 : gFetch 154 23 = some (.ireturn, 1, 0, 0) := rfl
theorem f155_0 : gFetch 155 0 = some (.aload_n 0, 1, 0, 0) := rfl
theorem f155_1 : gFetch 155 1 = some (.getfield 15, 3, 10, 1) := rfl
theorem f155_4 : gFetch 155 4 = some (.iload_n 1, 1, 0, 0) := rfl
theorem f155_5 : gFetch 155 5 = some (.iload_n 1, 1, 0, 0) := rfl
theorem f155_6 : gFetch 155 6 = some (.invokevirtual 34, 3, 102, 3) := rfl
theorem f155_9 : gFetch 155 9 = some (.ifCond .eq 32, 3, 41, 0) := rfl
theorem f155_12 : gFetch 155 12 = some (.aload_n 0, 1, 0, 0) := rfl
theorem f155_13 : gFetch 155 13 = some (.getfield 19, 3, 10, 2) := rfl
theorem f155_16 : gFetch 155 16 = some (.iconst 1, 1, 0, 0) := rfl
theorem f155_17 : gFetch 155 17 = some (.if_icmp .lt 20, 3, 37, 0) := rfl
theorem f155_20 : gFetch 155 20 = some (.iload_n 1, 1, 0, 0) := rfl
theorem f155_21 : gFetch 155 21 = some (.aload_n 0, 1, 0, 0) := rfl
theorem f155_22 : gFetch 155 22 = some (.getfield 15, 3, 10, 1) := rfl
theorem f155_25 : gFetch 155 25 = some (.getfield 40, 3, 2, 2) := rfl
theorem f155_28 : gFetch 155 28 = some (.isub, 1, 0, 0) := rfl
theorem f155_29 : gFetch 155 29 = some (.aload_n 0, 1, 0, 0) := rfl
theorem f155_30 : gFetch 155 30 = some (.getfield 19, 3, 10, 2) := rfl
theorem f155_33 : gFetch 155 33 = some (.irem, 1, 0, 0) := rfl
theorem f155_34 : gFetch 155 34 = some (.ifCond .ne 7, 3, 41, 0) := rfl
theorem f155_37 : gFetch 155 37 = some (.iconst 1, 1, 0, 0) := rfl
theorem f155_38 : gFetch 155 38 = some (.goto 4, 3, 42, 0) := rfl
theorem f155_41 : gFetch 155 41 = some (.iconst 0, 1, 0, 0) := rfl
theorem f155_42 : gFetch 155 42 = some (.ireturn, 1, 0, 0) := rfl
