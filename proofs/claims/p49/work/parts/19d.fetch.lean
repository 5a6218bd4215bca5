theorem f61_0 : gFetch 61 0 = some (.aload_n 0, 1, 0, 0) := rfl
theorem f61_1 : gFetch 61 1 = some (.getfield 156, 3, 11, 7) := rfl
theorem f61_4 : gFetch 61 4 = some (.ifnull 7, 3, 11, 0) := rfl
theorem f61_7 : gFetch 61 7 = some (.iconst 1, 1, 0, 0) := rfl
theorem f61_8 : gFetch 61 8 = some (.goto 4, 3, 12, 0) := rfl
theorem f61_11 : gFetch 61 11 = some (.iconst 0, 1, 0, 0) := rfl
theorem f61_12 : gFetch 61 12 = some (.ireturn, 1, 0, 0) := rfl
theorem f62_0 : gFetch 62 0 = some (.iconst 0, 1, 0, 0) := rfl
theorem f62_1 : gFetch 62 1 = some (.istore_n 1, 1, 0, 0) := rfl
theorem f62_2 : gFetch 62 2 = some (.iload_n 1, 1, 0, 0) := rfl
theorem f62_3 : gFetch 62 3 = some (.aload_n 0, 1, 0, 0) := rfl
theorem f62_4 : gFetch 62 4 = some (.getfield 10, 3, 11, 0) := rfl
theorem f62_7 : gFetch 62 7 = some (.invokevirtual 45, 3, 173, 1) := rfl
theorem f62_10 : gFetch 62 10 = some (.if_icmp .ge 38, 3, 48, 0) := rfl
theorem f62_13 : gFetch 62 13 = some (.aload_n 0, 1, 0, 0) := rfl
theorem f62_14 : gFetch 62 14 = some (.getfield 10, 3, 11, 0) := rfl
theorem f62_17 : gFetch 62 17 = some (.iload_n 1, 1, 0, 0) := rfl
theorem f62_18 : gFetch 62 18 = some (.invokevirtual 135, 3, 167, 2) := rfl
theorem f62_21 : gFetch 62 21 = some (.checkcast 54, 3, 4, 0) := rfl
theorem f62_24 : gFetch 62 24 = some (.astore_n 2, 1, 0, 0) := rfl
theorem f62_25 : gFetch 62 25 = some (.aload_n 2, 1, 0, 0) := rfl
theorem f62_26 : gFetch 62 26 = some (.invokevirtual 531, 3, 110, 1) := rfl
theorem f62_29 : gFetch 62 29 = some (.ifCond .eq 11, 3, 40, 0) := rfl
theorem f62_32 : gFetch 62 32 = some (.aload_n 0, 1, 0, 0) := rfl
theorem f62_33 : gFetch 62 33 = some (.aload_n 2, 1, 0, 0) := rfl
theorem f62_34 : gFetch 62 34 = some (.invokevirtual 534, 3, 57, 2) := rfl
theorem f62_37 : gFetch 62 37 = some (.ifCond .ne 5, 3, 42, 0) := rfl
theorem f62_40 : gFetch 62 40 = some (.iconst 0, 1, 0, 0) := rfl
theorem f62_41 : gFetch 62 41 = some (.ireturn, 1, 0, 0) := rfl
theorem f62_42 : gFetch 62 42 = some (.iinc 1 1, 3, 0, 0) := rfl
theorem f62_45 : gFetch 62 45 = some (.goto (-43), 3, 2, 0) := rfl
theorem f62_48 : gFetch 62 48 = some (.iconst 1, 1, 0, 0) := rfl
theorem f62_49 : gFetch 62 49 = some (.ireturn, 1, 0, 0) := rfl
theorem f63_0 : gFetch 63 0 = some (.aload_n 0, 1, 0, 0) := rfl
theorem f63_1 : gFetch 63 1 = some (.aload_n 1, 1, 0, 0) := rfl
theorem f63_2 : gFetch 63 2 = some (.getfield 234, 3, 3, 1) := rfl
theorem f63_5 : gFetch 63 5 = some (.iload_n 2, 1, 0, 0) := rfl
theorem f63_6 : gFetch 63 6 = some (.aload_n 1, 1, 0, 0) := rfl
theorem f63_7 : gFetch 63 7 = some (.getfield 238, 3, 3, 2) := rfl
theorem f63_10 : gFetch 63 10 = some (.invokevirtual 176, 3, 49, 4) := rfl
theorem f63_13 : gFetch 63 13 = some (.aload_n 0, 1, 0, 0) := rfl
theorem f63_14 : gFetch 63 14 = some (.getfield 31, 3, 11, 5) := rfl
theorem f63_17 : gFetch 63 17 = some (.getfield 246, 3, 5, 0) := rfl
theorem f63_20 : gFetch 63 20 = some (.ireturn, 1, 0, 0) := rfl
theorem f64_0 : gFetch 64 0 = some (.iconst 0, 1, 0, 0) := rfl
theorem f64_1 : gFetch 64 1 = some (.istore 4, 2, 0, 0) := rfl
theorem f64_3 : gFetch 64 3 = some (.iload 4, 2, 0, 0) := rfl
theorem f64_5 : gFetch 64 5 = some (.aload_n 0, 1, 0, 0) := rfl
theorem f64_6 : gFetch 64 6 = some (.getfield 16, 3, 11, 1) := rfl
theorem f64_9 : gFetch 64 9 = some (.invokevirtual 45, 3, 173, 1) := rfl
theorem f64_12 : gFetch 64 12 = some (.if_icmp .ge 47, 3, 59, 0) := rfl
theorem f64_15 : gFetch 64 15 = some (.aload_n 0, 1, 0, 0) := rfl
theorem f64_16 : gFetch 64 16 = some (.getfield 16, 3, 11, 1) := rfl
theorem f64_19 : gFetch 64 19 = some (.iload 4, 2, 0, 0) := rfl
theorem f64_21 : gFetch 64 21 = some (.invokevirtual 135, 3, 167, 2) := rfl
theorem f64_24 : gFetch 64 24 = some (.checkcast 93, 3, 10, 0) := rfl
theorem f64_27 : gFetch 64 27 = some (.astore 5, 2, 0, 0) := rfl
theorem f64_29 : gFetch 64 29 = some (.aload 5, 2, 0, 0) := rfl
theorem f64_31 : gFetch 64 31 = some (.aload_n 1, 1, 0, 0) := rfl
theorem f64_32 : gFetch 64 32 = some (.invokevirtual 139, 3, 153, 2) := rfl
theorem f64_35 : gFetch 64 35 = some (.ifCond .eq 18, 3, 53, 0) := rfl
theorem f64_38 : gFetch 64 38 = some (.aload 5, 2, 0, 0) := rfl
theorem f64_40 : gFetch 64 40 = some (.getfield 143, 3, 10, 1) := rfl
theorem f64_43 : gFetch 64 43 = some (.iload_n 2, 1, 0, 0) := rfl
theorem f64_44 : gFetch 64 44 = some (.iload_n 3, 1, 0, 0) := rfl
theorem f64_45 : gFetch 64 45 = some (.invokevirtual 147, 3, 102, 3) := rfl
theorem f64_48 : gFetch 64 48 = some (.ifCond .eq 5, 3, 53, 0) := rfl
theorem f64_51 : gFetch 64 51 = some (.iconst 1, 1, 0, 0) := rfl
theorem f64_52 : gFetch 64 52 = some (.ireturn, 1, 0, 0) := rfl
theorem f64_53 : gFetch 64 53 = some (.iinc 4 1, 3, 0, 0) := rfl
theorem f64_56 : gFetch 64 56 = some (.goto (-53), 3, 3, 0) := rfl
theorem f64_59 : gFetch 64 59 = some (.iconst 0, 1, 0, 0) := rfl
theorem f64_60 : gFetch 64 60 = some (.ireturn, 1, 0, 0) := rfl
theorem f65_0 : gFetch 65 0 = some (.iconst 0, 1, 0, 0) := rfl
theorem f65_1 : gFetch 65 1 = some (.istore_n 3, 1, 0, 0) := rfl
theorem f65_2 : gFetch 65 2 = some (.iload_n 3, 1, 0, 0) := rfl
theorem f65_3 : gFetch 65 3 = some (.aload_n 0, 1, 0, 0) := rfl
theorem f65_4 : gFetch 65 4 = some (.getfield 35, 3, 11, 6) := rfl
theorem f65_7 : gFetch 65 7 = some (.invokevirtual 45, 3, 173, 1) := rfl
theorem f65_10 : gFetch 65 10 = some (.if_icmp .ge 61, 3, 71, 0) := rfl
theorem f65_13 : gFetch 65 13 = some (.iload_n 3, 1, 0, 0) := rfl
theorem f65_14 : gFetch 65 14 = some (.aload_n 2, 1, 0, 0) := rfl
theorem f65_15 : gFetch 65 15 = some (.arraylength, 1, 0, 0) := rfl
theorem f65_16 : gFetch 65 16 = some (.if_icmp .ge 55, 3, 71, 0) := rfl
theorem f65_19 : gFetch 65 19 = some (.aload_n 0, 1, 0, 0) := rfl
theorem f65_20 : gFetch 65 20 = some (.getfield 35, 3, 11, 6) := rfl
theorem f65_23 : gFetch 65 23 = some (.iload_n 3, 1, 0, 0) := rfl
theorem f65_24 : gFetch 65 24 = some (.invokevirtual 135, 3, 167, 2) := rfl
theorem f65_27 : gFetch 65 27 = some (.checkcast 95, 3, 2, 0) := rfl
theorem f65_30 : gFetch 65 30 = some (.astore 4, 2, 0, 0) := rfl
theorem f65_32 : gFetch 65 32 = some (.aload 4, 2, 0, 0) := rfl
theorem f65_34 : gFetch 65 34 = some (.getfield 264, 3, 2, 1) := rfl
theorem f65_37 : gFetch 65 37 = some (.iload_n 1, 1, 0, 0) := rfl
theorem f65_38 : gFetch 65 38 = some (.if_icmp .gt 27, 3, 65, 0) := rfl
theorem f65_41 : gFetch 65 41 = some (.aload 4, 2, 0, 0) := rfl
theorem f65_43 : gFetch 65 43 = some (.getfield 376, 3, 2, 0) := rfl
theorem f65_46 : gFetch 65 46 = some (.iconst 3, 1, 0, 0) := rfl
theorem f65_47 : gFetch 65 47 = some (.if_icmp .ne 4, 3, 51, 0) := rfl
theorem f65_50 : gFetch 65 50 = some (.return_, 1, 0, 0) := rfl
theorem f65_51 : gFetch 65 51 = some (.aload_n 2, 1, 0, 0) := rfl
theorem f65_52 : gFetch 65 52 = some (.iload_n 3, 1, 0, 0) := rfl
theorem f65_53 : gFetch 65 53 = some (.iconst 1, 1, 0, 0) := rfl
theorem f65_54 : gFetch 65 54 = some (.bastore, 1, 0, 0) := rfl
theorem f65_55 : gFetch 65 55 = some (.aload 4, 2, 0, 0) := rfl
theorem f65_57 : gFetch 65 57 = some (.getfield 376, 3, 2, 0) := rfl
theorem f65_60 : gFetch 65 60 = some (.iconst 4, 1, 0, 0) := rfl
theorem f65_61 : gFetch 65 61 = some (.if_icmp .eq 4, 3, 65, 0) := rfl
theorem f65_64 : gFetch 65 64 = some (.return_, 1, 0, 0) := rfl
theorem f65_65 : gFetch 65 65 = some (.iinc 3 1, 3, 0, 0) := rfl
theorem f65_68 : gFetch 65 68 = some (.goto (-66), 3, 2, 0) := rfl
theorem f65_71 : gFetch 65 71 = some (.return_, 1, 0, 0) := rfl
theorem f66_0 : gFetch 66 0 = some (.new 7, 3, 0, 0) := rfl
theorem f66_3 : gFetch 66 3 = some (.dup, 1, 0, 0) := rfl
theorem f66_4 : gFetch 66 4 = some (.invokespecial 9, 3, 160, 1) := rfl
theorem f66_7 : gFetch 66 7 = some (.astore_n 1, 1, 0, 0) := rfl
theorem f66_8 : gFetch 66 8 = some (.iconst 0, 1, 0, 0) := rfl
theorem f66_9 : gFetch 66 9 = some (.istore_n 2, 1, 0, 0) := rfl
theorem f66_10 : gFetch 66 10 = some (.iload_n 2, 1, 0, 0) := rfl
theorem f66_11 : gFetch 66 11 = some (.aload_n 0, 1, 0, 0) := rfl
theorem f66_12 : gFetch 66 12 = some (.getfield 417, 3, 7, 2) := rfl
theorem f66_15 : gFetch 66 15 = some (.invokevirtual 45, 3, 173, 1) := rfl
theorem f66_18 : gFetch 66 18 = some (.if_icmp .ge 95, 3, 113, 0) := rfl
theorem f66_21 : gFetch 66 21 = some (.aload_n 0, 1, 0, 0) := rfl
theorem f66_22 : gFetch 66 22 = some (.getfield 417, 3, 7, 2) := rfl
theorem f66_25 : gFetch 66 25 = some (.iload_n 2, 1, 0, 0) := rfl
theorem f66_26 : gFetch 66 26 = some (.invokevirtual 135, 3, 167, 2) := rfl
theorem f66_29 : gFetch 66 29 = some (.checkcast 284, 3, 8, 0) := rfl
theorem f66_32 : gFetch 66 32 = some (.getfield 335, 3, 8, 3) := rfl
theorem f66_35 : gFetch 66 35 = some (.astore_n 3, 1, 0, 0) := rfl
theorem f66_36 : gFetch 66 36 = some (.iconst 0, 1, 0, 0) := rfl
theorem f66_37 : gFetch 66 37 = some (.istore 4, 2, 0, 0) := rfl
theorem f66_39 : gFetch 66 39 = some (.iload 4, 2, 0, 0) := rfl
theorem f66_41 : gFetch 66 41 = some (.aload_n 3, 1, 0, 0) := rfl
theorem f66_42 : gFetch 66 42 = some (.invokevirtual 45, 3, 173, 1) := rfl
theorem f66_45 : gFetch 66 45 = some (.if_icmp .ge 62, 3, 107, 0) := rfl
theorem f66_48 : gFetch 66 48 = some (.aload_n 3, 1, 0, 0) := rfl
theorem f66_49 : gFetch 66 49 = some (.iload 4, 2, 0, 0) := rfl
theorem f66_51 : gFetch 66 51 = some (.invokevirtual 135, 3, 167, 2) := rfl
theorem f66_54 : gFetch 66 54 = some (.checkcast 95, 3, 2, 0) := rfl
theorem f66_57 : gFetch 66 57 = some (.astore 5, 2, 0, 0) := rfl
theorem f66_59 : gFetch 66 59 = some (.aload_n 0, 1, 0, 0) := rfl
theorem f66_60 : gFetch 66 60 = some (.getfield 424, 3, 7, 0) := rfl
theorem f66_63 : gFetch 66 63 = some (.aload_n 0, 1, 0, 0) := rfl
theorem f66_64 : gFetch 66 64 = some (.getfield 425, 3, 7, 1) := rfl
theorem f66_67 : gFetch 66 67 = some (.iconst 1, 1, 0, 0) := rfl
theorem f66_68 : gFetch 66 68 = some (.iadd, 1, 0, 0) := rfl
theorem f66_69 : gFetch 66 69 = some (.aload 5, 2, 0, 0) := rfl
theorem f66_71 : gFetch 66 71 = some (.getfield 383, 3, 2, 2) := rfl
theorem f66_74 : gFetch 66 74 = some (.aload 5, 2, 0, 0) := rfl
theorem f66_76 : gFetch 66 76 = some (.getfield 464, 3, 2, 3) := rfl
theorem f66_79 : gFetch 66 79 = some (.invokevirtual 428, 3, 111, 4) := rfl
theorem f66_82 : gFetch 66 82 = some (.ifCond .ne 12, 3, 94, 0) := rfl
theorem f66_85 : gFetch 66 85 = some (.aload_n 0, 1, 0, 0) := rfl
theorem f66_86 : gFetch 66 86 = some (.aload 5, 2, 0, 0) := rfl
theorem f66_88 : gFetch 66 88 = some (.invokevirtual 467, 3, 133, 2) := rfl
theorem f66_91 : gFetch 66 91 = some (.ifCond .eq 10, 3, 101, 0) := rfl
theorem f66_94 : gFetch 66 94 = some (.aload_n 1, 1, 0, 0) := rfl
theorem f66_95 : gFetch 66 95 = some (.aload 5, 2, 0, 0) := rfl
theorem f66_97 : gFetch 66 97 = some (.invokevirtual 59, 3, 162, 2) := rfl
theorem f66_100 : gFetch 66 100 = some (.pop, 1, 0, 0) := rfl
theorem f66_101 : gFetch 66 101 = some (.iinc 4 1, 3, 0, 0) := rfl
theorem f66_104 : gFetch 66 104 = some (.goto (-65), 3, 39, 0) := rfl
theorem f66_107 : gFetch 66 107 = some (.iinc 2 1, 3, 0, 0) := rfl
theorem f66_110 : gFetch 66 110 = some (.goto (-100), 3, 10, 0) := rfl
theorem f66_113 : gFetch 66 113 = some (.aload_n 1, 1, 0, 0) := rfl
theorem f66_114 : gFetch 66 114 = some (.areturn, 1, 0, 0) := rfl
theorem f67_0 : gFetch 67 0 = some (.aload_n 0, 1, 0, 0) := rfl
theorem f67_1 : gFetch 67 1 = some (.getfield 16, 3, 11, 1) := rfl
theorem f67_4 : gFetch 67 4 = some (.invokevirtual 45, 3, 173, 1) := rfl
theorem f67_7 : gFetch 67 7 = some (.ireturn, 1, 0, 0) := rfl
theorem f68_0 : gFetch 68 0 = some (.aload_n 0, 1, 0, 0) := rfl
theorem f68_1 : gFetch 68 1 = some (.iload_n 1, 1, 0, 0) := rfl
theorem f68_2 : gFetch 68 2 = some (.invokevirtual 71, 3, 47, 2) := rfl
theorem f68_5 : gFetch 68 5 = some (.astore_n 3, 1, 0, 0) := rfl
theorem f68_6 : gFetch 68 6 = some (.iload_n 2, 1, 0, 0) := rfl
theorem f68_7 : gFetch 68 7 = some (.ifCond .lt 8, 3, 15, 0) := rfl
theorem f68_10 : gFetch 68 10 = some (.iload_n 2, 1, 0, 0) := rfl
theorem f68_11 : gFetch 68 11 = some (.iconst 4, 1, 0, 0) := rfl
theorem f68_12 : gFetch 68 12 = some (.if_icmp .lt 14, 3, 26, 0) := rfl
theorem f68_15 : gFetch 68 15 = some (.new 195, 3, 1000, 3) := rfl
theorem f68_18 : gFetch 68 18 = some (.dup, 1, 0, 0) := rfl
theorem f68_19 : gFetch 68 19 = some (.ldc_w 548, 3, 999, 0) := rfl
theorem f68_22 : gFetch 68 22 = some (.invokespecial 199, 3, 999, 0) := rfl
theorem f68_25 : gFetch 68 25 = some (.athrow, 1, 0, 0) := rfl
theorem f68_26 : gFetch 68 26 = some (.aload_n 3, 1, 0, 0) := rfl
theorem f68_27 : gFetch 68 27 = some (.iload_n 2, 1, 0, 0) := rfl
theorem f68_28 : gFetch 68 28 = some (.invokevirtual 107, 3, 108, 2) := rfl
theorem f68_31 : gFetch 68 31 = some (.areturn, 1, 0, 0) := rfl
theorem f69_0 : gFetch 69 0 = some (.iconst 0, 1, 0, 0) := rfl
theorem f69_1 : gFetch 69 1 = some (.istore 4, 2, 0, 0) := rfl
theorem f69_3 : gFetch 69 3 = some (.iconst 0, 1, 0, 0) := rfl
theorem f69_4 : gFetch 69 4 = some (.istore 5, 2, 0, 0) := rfl
theorem f69_6 : gFetch 69 6 = some (.iload 5, 2, 0, 0) := rfl
theorem f69_8 : gFetch 69 8 = some (.iconst 4, 1, 0, 0) := rfl
theorem f69_9 : gFetch 69 9 = some (.if_icmp .ge 25, 3, 34, 0) := rfl
theorem f69_12 : gFetch 69 12 = some (.aload_n 0, 1, 0, 0) := rfl
theorem f69_13 : gFetch 69 13 = some (.aload_n 1, 1, 0, 0) := rfl
theorem f69_14 : gFetch 69 14 = some (.iload 5, 2, 0, 0) := rfl
theorem f69_16 : gFetch 69 16 = some (.iload_n 2, 1, 0, 0) := rfl
theorem f69_17 : gFetch 69 17 = some (.iload_n 3, 1, 0, 0) := rfl
theorem f69_18 : gFetch 69 18 = some (.invokevirtual 151, 3, 59, 5) := rfl
theorem f69_21 : gFetch 69 21 = some (.ifCond .eq 13, 3, 34, 0) := rfl
theorem f69_24 : gFetch 69 24 = some (.iload 5, 2, 0, 0) := rfl
theorem f69_26 : gFetch 69 26 = some (.istore 4, 2, 0, 0) := rfl
theorem f69_28 : gFetch 69 28 = some (.iinc 5 1, 3, 0, 0) := rfl
theorem f69_31 : gFetch 69 31 = some (.goto (-25), 3, 6, 0) := rfl
theorem f69_34 : gFetch 69 34 = some (.iload 4, 2, 0, 0) := rfl
theorem f69_36 : gFetch 69 36 = some (.ireturn, 1, 0, 0) := rfl
theorem f70_0 : gFetch 70 0 = some (.iconst 0, 1, 0, 0) := rfl
theorem f70_1 : gFetch 70 1 = some (.istore_n 1, 1, 0, 0) := rfl
theorem f70_2 : gFetch 70 2 = some (.iconst 0, 1, 0, 0) := rfl
theorem f70_3 : gFetch 70 3 = some (.istore_n 2, 1, 0, 0) := rfl
theorem f70_4 : gFetch 70 4 = some (.iconst 0, 1, 0, 0) := rfl
theorem f70_5 : gFetch 70 5 = some (.istore_n 3, 1, 0, 0) := rfl
theorem f70_6 : gFetch 70 6 = some (.iload_n 3, 1, 0, 0) := rfl
theorem f70_7 : gFetch 70 7 = some (.aload_n 0, 1, 0, 0) := rfl
theorem f70_8 : gFetch 70 8 = some (.getfield 16, 3, 11, 1) := rfl
theorem f70_11 : gFetch 70 11 = some (.invokevirtual 45, 3, 173, 1) := rfl
theorem f70_14 : gFetch 70 14 = some (.if_icmp .ge 63, 3, 77, 0) := rfl
theorem f70_17 : gFetch 70 17 = some (.aload_n 0, 1, 0, 0) := rfl
theorem f70_18 : gFetch 70 18 = some (.getfield 16, 3, 11, 1) := rfl
theorem f70_21 : gFetch 70 21 = some (.iload_n 3, 1, 0, 0) := rfl
theorem f70_22 : gFetch 70 22 = some (.invokevirtual 135, 3, 167, 2) := rfl
theorem f70_25 : gFetch 70 25 = some (.checkcast 93, 3, 10, 0) := rfl
theorem f70_28 : gFetch 70 28 = some (.astore 4, 2, 0, 0) := rfl
theorem f70_30 : gFetch 70 30 = some (.iload_n 2, 1, 0, 0) := rfl
theorem f70_31 : gFetch 70 31 = some (.ifCond .ne 11, 3, 42, 0) := rfl
theorem f70_34 : gFetch 70 34 = some (.aload 4, 2, 0, 0) := rfl
theorem f70_36 : gFetch 70 36 = some (.invokevirtual 483, 3, 152, 1) := rfl
theorem f70_39 : gFetch 70 39 = some (.ifCond .eq 7, 3, 46, 0) := rfl
theorem f70_42 : gFetch 70 42 = some (.iconst 1, 1, 0, 0) := rfl
theorem f70_43 : gFetch 70 43 = some (.goto 4, 3, 47, 0) := rfl
theorem f70_46 : gFetch 70 46 = some (.iconst 0, 1, 0, 0) := rfl
theorem f70_47 : gFetch 70 47 = some (.istore_n 2, 1, 0, 0) := rfl
theorem f70_48 : gFetch 70 48 = some (.iload_n 2, 1, 0, 0) := rfl
theorem f70_49 : gFetch 70 49 = some (.ifCond .eq 22, 3, 71, 0) := rfl
theorem f70_52 : gFetch 70 52 = some (.aload 4, 2, 0, 0) := rfl
theorem f70_54 : gFetch 70 54 = some (.getfield 373, 3, 10, 3) := rfl
theorem f70_57 : gFetch 70 57 = some (.ifCond .eq 14, 3, 71, 0) := rfl
theorem f70_60 : gFetch 70 60 = some (.aload 4, 2, 0, 0) := rfl
theorem f70_62 : gFetch 70 62 = some (.invokevirtual 486, 3, 151, 1) := rfl
theorem f70_65 : gFetch 70 65 = some (.ifCond .ne 6, 3, 71, 0) := rfl
theorem f70_68 : gFetch 70 68 = some (.iinc 1 1, 3, 0, 0) := rfl
theorem f70_71 : gFetch 70 71 = some (.iinc 3 1, 3, 0, 0) := rfl
theorem f70_74 : gFetch 70 74 = some (.goto (-68), 3, 6, 0) := rfl
theorem f70_77 : gFetch 70 77 = some (.iload_n 1, 1, 0, 0) := rfl
theorem f70_78 : gFetch 70 78 = some (.ireturn, 1, 0, 0) := rfl
theorem f71_0 : gFetch 71 0 = some (.aload_n 0, 1, 0, 0) := rfl
theorem f71_1 : gFetch 71 1 = some (.getfield 31, 3, 11, 5) := rfl
theorem f71_4 : gFetch 71 4 = some (.invokevirtual 255, 3, 113, 1) := rfl
theorem f71_7 : gFetch 71 7 = some (.aload_n 0, 1, 0, 0) := rfl
theorem f71_8 : gFetch 71 8 = some (.aload_n 1, 1, 0, 0) := rfl
theorem f71_9 : gFetch 71 9 = some (.iload_n 2, 1, 0, 0) := rfl
theorem f71_10 : gFetch 71 10 = some (.iload_n 3, 1, 0, 0) := rfl
theorem f71_11 : gFetch 71 11 = some (.invokevirtual 278, 3, 72, 4) := rfl
theorem f71_14 : gFetch 71 14 = some (.iconst 0, 1, 0, 0) := rfl
theorem f71_15 : gFetch 71 15 = some (.istore 5, 2, 0, 0) := rfl
theorem f71_17 : gFetch 71 17 = some (.iload 5, 2, 0, 0) := rfl
theorem f71_19 : gFetch 71 19 = some (.iconst 4, 1, 0, 0) := rfl
theorem f71_20 : gFetch 71 20 = some (.if_icmp .ge 82, 3, 102, 0) := rfl
theorem f71_23 : gFetch 71 23 = some (.aload_n 1, 1, 0, 0) := rfl
theorem f71_24 : gFetch 71 24 = some (.iload 5, 2, 0, 0) := rfl
theorem f71_26 : gFetch 71 26 = some (.invokevirtual 107, 3, 108, 2) := rfl
theorem f71_29 : gFetch 71 29 = some (.astore 6, 2, 0, 0) := rfl
theorem f71_31 : gFetch 71 31 = some (.iconst 0, 1, 0, 0) := rfl
theorem f71_32 : gFetch 71 32 = some (.istore 7, 2, 0, 0) := rfl
theorem f71_34 : gFetch 71 34 = some (.iload 7, 2, 0, 0) := rfl
theorem f71_36 : gFetch 71 36 = some (.aload 6, 2, 0, 0) := rfl
theorem f71_38 : gFetch 71 38 = some (.invokevirtual 127, 3, 119, 1) := rfl
theorem f71_41 : gFetch 71 41 = some (.if_icmp .ge 55, 3, 96, 0) := rfl
theorem f71_44 : gFetch 71 44 = some (.aload_n 0, 1, 0, 0) := rfl
theorem f71_45 : gFetch 71 45 = some (.getfield 31, 3, 11, 5) := rfl
theorem f71_48 : gFetch 71 48 = some (.getfield 258, 3, 5, 1) := rfl
theorem f71_51 : gFetch 71 51 = some (.ifCond .ne 45, 3, 96, 0) := rfl
theorem f71_54 : gFetch 71 54 = some (.aload 6, 2, 0, 0) := rfl
theorem f71_56 : gFetch 71 56 = some (.getfield 281, 3, 6, 0) := rfl
theorem f71_59 : gFetch 71 59 = some (.iload 7, 2, 0, 0) := rfl
theorem f71_61 : gFetch 71 61 = some (.invokevirtual 135, 3, 167, 2) := rfl
theorem f71_64 : gFetch 71 64 = some (.checkcast 284, 3, 8, 0) := rfl
theorem f71_67 : gFetch 71 67 = some (.astore 8, 2, 0, 0) := rfl
theorem f71_69 : gFetch 71 69 = some (.aload 8, 2, 0, 0) := rfl
theorem f71_71 : gFetch 71 71 = some (.iload_n 2, 1, 0, 0) := rfl
theorem f71_72 : gFetch 71 72 = some (.iload_n 2, 1, 0, 0) := rfl
theorem f71_73 : gFetch 71 73 = some (.invokevirtual 286, 3, 147, 3) := rfl
theorem f71_76 : gFetch 71 76 = some (.ifCond .eq 14, 3, 90, 0) := rfl
theorem f71_79 : gFetch 71 79 = some (.aload_n 0, 1, 0, 0) := rfl
theorem f71_80 : gFetch 71 80 = some (.aload_n 1, 1, 0, 0) := rfl
theorem f71_81 : gFetch 71 81 = some (.aload 8, 2, 0, 0) := rfl
theorem f71_83 : gFetch 71 83 = some (.iload_n 2, 1, 0, 0) := rfl
theorem f71_84 : gFetch 71 84 = some (.iload_n 3, 1, 0, 0) := rfl
theorem f71_85 : gFetch 71 85 = some (.iload 4, 2, 0, 0) := rfl
theorem f71_87 : gFetch 71 87 = some (.invokevirtual 287, 3, 73, 6) := rfl
theorem f71_90 : gFetch 71 90 = some (.iinc 7 1, 3, 0, 0) := rfl
theorem f71_93 : gFetch 71 93 = some (.goto (-59), 3, 34, 0) := rfl
theorem f71_96 : gFetch 71 96 = some (.iinc 5 1, 3, 0, 0) := rfl
theorem f71_99 : gFetch 71 99 = some (.goto (-82), 3, 17, 0) := rfl
theorem f71_102 : gFetch 71 102 = some (.return_, 1, 0, 0) := rfl
theorem f72_0 : gFetch 72 0 = some (.aload_n 0, 1, 0, 0) := rfl
theorem f72_1 : gFetch 72 1 = some (.getfield 16, 3, 11, 1) := rfl
theorem f72_4 : gFetch 72 4 = some (.invokevirtual 45, 3, 173, 1) := rfl
theorem f72_7 : gFetch 72 7 = some (.iconst 1, 1, 0, 0) := rfl
theorem f72_8 : gFetch 72 8 = some (.isub, 1, 0, 0) := rfl
theorem f72_9 : gFetch 72 9 = some (.istore 4, 2, 0, 0) := rfl
theorem f72_11 : gFetch 72 11 = some (.iload 4, 2, 0, 0) := rfl
theorem f72_13 : gFetch 72 13 = some (.ifCond .lt 79, 3, 92, 0) := rfl
theorem f72_16 : gFetch 72 16 = some (.aload_n 0, 1, 0, 0) := rfl
theorem f72_17 : gFetch 72 17 = some (.getfield 31, 3, 11, 5) := rfl
theorem f72_20 : gFetch 72 20 = some (.getfield 258, 3, 5, 1) := rfl
theorem f72_23 : gFetch 72 23 = some (.ifCond .ne 69, 3, 92, 0) := rfl
theorem f72_26 : gFetch 72 26 = some (.aload_n 0, 1, 0, 0) := rfl
theorem f72_27 : gFetch 72 27 = some (.getfield 16, 3, 11, 1) := rfl
theorem f72_30 : gFetch 72 30 = some (.iload 4, 2, 0, 0) := rfl
theorem f72_32 : gFetch 72 32 = some (.invokevirtual 135, 3, 167, 2) := rfl
theorem f72_35 : gFetch 72 35 = some (.checkcast 93, 3, 10, 0) := rfl
theorem f72_38 : gFetch 72 38 = some (.astore 5, 2, 0, 0) := rfl
theorem f72_40 : gFetch 72 40 = some (.aload 5, 2, 0, 0) := rfl
theorem f72_42 : gFetch 72 42 = some (.aload_n 1, 1, 0, 0) := rfl
theorem f72_43 : gFetch 72 43 = some (.invokevirtual 139, 3, 153, 2) := rfl
theorem f72_46 : gFetch 72 46 = some (.ifCond .eq 40, 3, 86, 0) := rfl
theorem f72_49 : gFetch 72 49 = some (.aload 5, 2, 0, 0) := rfl
theorem f72_51 : gFetch 72 51 = some (.getfield 143, 3, 10, 1) := rfl
theorem f72_54 : gFetch 72 54 = some (.getfield 264, 3, 2, 1) := rfl
theorem f72_57 : gFetch 72 57 = some (.iload_n 3, 1, 0, 0) := rfl
theorem f72_58 : gFetch 72 58 = some (.if_icmp .gt 28, 3, 86, 0) := rfl
theorem f72_61 : gFetch 72 61 = some (.aload 5, 2, 0, 0) := rfl
theorem f72_63 : gFetch 72 63 = some (.iload_n 2, 1, 0, 0) := rfl
theorem f72_64 : gFetch 72 64 = some (.invokevirtual 267, 3, 155, 2) := rfl
theorem f72_67 : gFetch 72 67 = some (.ifCond .eq 19, 3, 86, 0) := rfl
theorem f72_70 : gFetch 72 70 = some (.aload_n 0, 1, 0, 0) := rfl
theorem f72_71 : gFetch 72 71 = some (.getfield 31, 3, 11, 5) := rfl
theorem f72_74 : gFetch 72 74 = some (.aload 5, 2, 0, 0) := rfl
theorem f72_76 : gFetch 72 76 = some (.getfield 143, 3, 10, 1) := rfl
theorem f72_79 : gFetch 72 79 = some (.aload_n 1, 1, 0, 0) := rfl
theorem f72_80 : gFetch 72 80 = some (.getfield 270, 3, 4, 1) := rfl
theorem f72_83 : gFetch 72 83 = some (.invokevirtual 274, 3, 115, 3) := rfl
theorem f72_86 : gFetch 72 86 = some (.iinc 4 (-1), 3, 0, 0) := rfl
theorem f72_89 : gFetch 72 89 = some (.goto (-78), 3, 11, 0) := rfl
theorem f72_92 : gFetch 72 92 = some (.return_, 1, 0, 0) := rfl
theorem f73_0 : gFetch 73 0 = some (.iload 5, 2, 0, 0) := rfl
theorem f73_2 : gFetch 73 2 = some (.ifCond .eq 9, 3, 11, 0) := rfl
theorem f73_5 : gFetch 73 5 = some (.aload_n 0, 1, 0, 0) := rfl
theorem f73_6 : gFetch 73 6 = some (.aload_n 2, 1, 0, 0) := rfl
theorem f73_7 : gFetch 73 7 = some (.iload_n 3, 1, 0, 0) := rfl
theorem f73_8 : gFetch 73 8 = some (.invokevirtual 291, 3, 33, 3) := rfl
theorem f73_11 : gFetch 73 11 = some (.aload_n 0, 1, 0, 0) := rfl
theorem f73_12 : gFetch 73 12 = some (.getfield 35, 3, 11, 6) := rfl
theorem f73_15 : gFetch 73 15 = some (.invokevirtual 295, 3, 164, 1) := rfl
theorem f73_18 : gFetch 73 18 = some (.aload_n 2, 1, 0, 0) := rfl
theorem f73_19 : gFetch 73 19 = some (.iload_n 3, 1, 0, 0) := rfl
theorem f73_20 : gFetch 73 20 = some (.aload_n 0, 1, 0, 0) := rfl
theorem f73_21 : gFetch 73 21 = some (.getfield 35, 3, 11, 6) := rfl
theorem f73_24 : gFetch 73 24 = some (.invokevirtual 298, 3, 139, 3) := rfl
theorem f73_27 : gFetch 73 27 = some (.iconst 0, 1, 0, 0) := rfl
theorem f73_28 : gFetch 73 28 = some (.istore 6, 2, 0, 0) := rfl
theorem f73_30 : gFetch 73 30 = some (.iload 6, 2, 0, 0) := rfl
theorem f73_32 : gFetch 73 32 = some (.aload_n 0, 1, 0, 0) := rfl
theorem f73_33 : gFetch 73 33 = some (.getfield 35, 3, 11, 6) := rfl
theorem f73_36 : gFetch 73 36 = some (.invokevirtual 45, 3, 173, 1) := rfl
theorem f73_39 : gFetch 73 39 = some (.if_icmp .ge 56, 3, 95, 0) := rfl
theorem f73_42 : gFetch 73 42 = some (.aload_n 0, 1, 0, 0) := rfl
theorem f73_43 : gFetch 73 43 = some (.getfield 31, 3, 11, 5) := rfl
theorem f73_46 : gFetch 73 46 = some (.getfield 258, 3, 5, 1) := rfl
theorem f73_49 : gFetch 73 49 = some (.ifCond .ne 46, 3, 95, 0) := rfl
theorem f73_52 : gFetch 73 52 = some (.aload_n 0, 1, 0, 0) := rfl
theorem f73_53 : gFetch 73 53 = some (.getfield 35, 3, 11, 6) := rfl
theorem f73_56 : gFetch 73 56 = some (.iload 6, 2, 0, 0) := rfl
theorem f73_58 : gFetch 73 58 = some (.invokevirtual 135, 3, 167, 2) := rfl
theorem f73_61 : gFetch 73 61 = some (.checkcast 95, 3, 2, 0) := rfl
theorem f73_64 : gFetch 73 64 = some (.astore 7, 2, 0, 0) := rfl
theorem f73_66 : gFetch 73 66 = some (.aload 7, 2, 0, 0) := rfl
theorem f73_68 : gFetch 73 68 = some (.getfield 264, 3, 2, 1) := rfl
theorem f73_71 : gFetch 73 71 = some (.iload 4, 2, 0, 0) := rfl
theorem f73_73 : gFetch 73 73 = some (.if_icmp .gt 16, 3, 89, 0) := rfl
theorem f73_76 : gFetch 73 76 = some (.aload_n 0, 1, 0, 0) := rfl
theorem f73_77 : gFetch 73 77 = some (.getfield 31, 3, 11, 5) := rfl
theorem f73_80 : gFetch 73 80 = some (.aload 7, 2, 0, 0) := rfl
theorem f73_82 : gFetch 73 82 = some (.aload_n 1, 1, 0, 0) := rfl
theorem f73_83 : gFetch 73 83 = some (.getfield 270, 3, 4, 1) := rfl
theorem f73_86 : gFetch 73 86 = some (.invokevirtual 274, 3, 115, 3) := rfl
theorem f73_89 : gFetch 73 89 = some (.iinc 6 1, 3, 0, 0) := rfl
theorem f73_92 : gFetch 73 92 = some (.goto (-62), 3, 30, 0) := rfl
theorem f73_95 : gFetch 73 95 = some (.return_, 1, 0, 0) := rfl
theorem f74_0 : gFetch 74 0 = some (.aload_n 0, 1, 0, 0) := rfl
theorem f74_1 : gFetch 74 1 = some (.dup, 1, 0, 0) := rfl
theorem f74_2 : gFetch 74 2 = some (.getfield 389, 3, 11, 10) := rfl
theorem f74_5 : gFetch 74 5 = some (.iconst 1, 1, 0, 0) := rfl
theorem f74_6 : gFetch 74 6 = some (.iadd, 1, 0, 0) := rfl
theorem f74_7 : gFetch 74 7 = some (.putfield 389, 3, 11, 10) := rfl
theorem f74_10 : gFetch 74 10 = some (.new 284, 3, 8, 0) := rfl
theorem f74_13 : gFetch 74 13 = some (.dup, 1, 0, 0) := rfl
theorem f74_14 : gFetch 74 14 = some (.aload_n 0, 1, 0, 0) := rfl
theorem f74_15 : gFetch 74 15 = some (.getfield 389, 3, 11, 10) := rfl
theorem f74_18 : gFetch 74 18 = some (.iload_n 1, 1, 0, 0) := rfl
theorem f74_19 : gFetch 74 19 = some (.aload_n 2, 1, 0, 0) := rfl
theorem f74_20 : gFetch 74 20 = some (.aload_n 3, 1, 0, 0) := rfl
theorem f74_21 : gFetch 74 21 = some (.invokespecial 392, 3, 136, 5) := rfl
theorem f74_24 : gFetch 74 24 = some (.astore 4, 2, 0, 0) := rfl
theorem f74_26 : gFetch 74 26 = some (.aload_n 0, 1, 0, 0) := rfl
theorem f74_27 : gFetch 74 27 = some (.dup, 1, 0, 0) := rfl
theorem f74_28 : gFetch 74 28 = some (.getfield 395, 3, 11, 11) := rfl
theorem f74_31 : gFetch 74 31 = some (.aload 4, 2, 0, 0) := rfl
theorem f74_33 : gFetch 74 33 = some (.invokevirtual 398, 3, 148, 1) := rfl
theorem f74_36 : gFetch 74 36 = some (.iadd, 1, 0, 0) := rfl
theorem f74_37 : gFetch 74 37 = some (.putfield 395, 3, 11, 11) := rfl
theorem f74_40 : gFetch 74 40 = some (.aload 4, 2, 0, 0) := rfl
theorem f74_42 : gFetch 74 42 = some (.areturn, 1, 0, 0) := rfl
theorem f75_0 : gFetch 75 0 = some (.aload_n 0, 1, 0, 0) := rfl
theorem f75_1 : gFetch 75 1 = some (.iload_n 1, 1, 0, 0) := rfl
theorem f75_2 : gFetch 75 2 = some (.iconst 4, 1, 0, 0) := rfl
theorem f75_3 : gFetch 75 3 = some (.iload_n 2, 1, 0, 0) := rfl
theorem f75_4 : gFetch 75 4 = some (.iload_n 2, 1, 0, 0) := rfl
theorem f75_5 : gFetch 75 5 = some (.iload_n 3, 1, 0, 0) := rfl
theorem f75_6 : gFetch 75 6 = some (.invokevirtual 67, 3, 99, 6) := rfl
theorem f75_9 : gFetch 75 9 = some (.ireturn, 1, 0, 0) := rfl
theorem f76_0 : gFetch 76 0 = some (.iload_n 1, 1, 0, 0) := rfl
theorem f76_1 : gFetch 76 1 = some (.iconst (-1), 1, 0, 0) := rfl
theorem f76_2 : gFetch 76 2 = some (.if_icmp .ne 11, 3, 13, 0) := rfl
theorem f76_5 : gFetch 76 5 = some (.aload_n 0, 1, 0, 0) := rfl
theorem f76_6 : gFetch 76 6 = some (.getfield 16, 3, 11, 1) := rfl
theorem f76_9 : gFetch 76 9 = some (.invokevirtual 45, 3, 173, 1) := rfl
theorem f76_12 : gFetch 76 12 = some (.ireturn, 1, 0, 0) := rfl
theorem f76_13 : gFetch 76 13 = some (.aload_n 0, 1, 0, 0) := rfl
theorem f76_14 : gFetch 76 14 = some (.iload_n 1, 1, 0, 0) := rfl
theorem f76_15 : gFetch 76 15 = some (.invokevirtual 192, 3, 83, 2) := rfl
theorem f76_18 : gFetch 76 18 = some (.istore_n 2, 1, 0, 0) := rfl
theorem f76_19 : gFetch 76 19 = some (.iload_n 2, 1, 0, 0) := rfl
theorem f76_20 : gFetch 76 20 = some (.ifCond .lt 14, 3, 34, 0) := rfl
theorem f76_23 : gFetch 76 23 = some (.iload_n 2, 1, 0, 0) := rfl
theorem f76_24 : gFetch 76 24 = some (.aload_n 0, 1, 0, 0) := rfl
theorem f76_25 : gFetch 76 25 = some (.getfield 19, 3, 11, 2) := rfl
theorem f76_28 : gFetch 76 28 = some (.invokevirtual 45, 3, 173, 1) := rfl
theorem f76_31 : gFetch 76 31 = some (.if_icmp .lt 13, 3, 44, 0) := rfl
theorem f76_34 : gFetch 76 34 = some (.new 195, 3, 1000, 2) := rfl
theorem f76_37 : gFetch 76 37 = some (.dup, 1, 0, 0) := rfl
theorem f76_38 : gFetch 76 38 = some (.ldc 197, 2, 999, 0) := rfl
theorem f76_40 : gFetch 76 40 = some (.invokespecial 199, 3, 999, 0) := rfl
theorem f76_43 : gFetch 76 43 = some (.athrow, 1, 0, 0) := rfl
theorem f76_44 : gFetch 76 44 = some (.aload_n 0, 1, 0, 0) := rfl
theorem f76_45 : gFetch 76 45 = some (.getfield 19, 3, 11, 2) := rfl
theorem f76_48 : gFetch 76 48 = some (.iload_n 2, 1, 0, 0) := rfl
theorem f76_49 : gFetch 76 49 = some (.invokevirtual 135, 3, 167, 2) := rfl
theorem f76_52 : gFetch 76 52 = some (.checkcast 182, 3, 9, 0) := rfl
theorem f76_55 : gFetch 76 55 = some (.getfield 254, 3, 9, 1) := rfl
theorem f76_58 : gFetch 76 58 = some (.ireturn, 1, 0, 0) := rfl
theorem f77_0 : gFetch 77 0 = some (.iconst 0, 1, 0, 0) := rfl
theorem f77_1 : gFetch 77 1 = some (.istore_n 1, 1, 0, 0) := rfl
theorem f77_2 : gFetch 77 2 = some (.iconst 1, 1, 0, 0) := rfl
theorem f77_3 : gFetch 77 3 = some (.istore_n 2, 1, 0, 0) := rfl
theorem f77_4 : gFetch 77 4 = some (.iload_n 2, 1, 0, 0) := rfl
theorem f77_5 : gFetch 77 5 = some (.iconst 4, 1, 0, 0) := rfl
theorem f77_6 : gFetch 77 6 = some (.if_icmp .ge 33, 3, 39, 0) := rfl
theorem f77_9 : gFetch 77 9 = some (.aload_n 0, 1, 0, 0) := rfl
theorem f77_10 : gFetch 77 10 = some (.iload_n 2, 1, 0, 0) := rfl
theorem f77_11 : gFetch 77 11 = some (.invokevirtual 107, 3, 108, 2) := rfl
theorem f77_14 : gFetch 77 14 = some (.iload_n 2, 1, 0, 0) := rfl
theorem f77_15 : gFetch 77 15 = some (.invokestatic 344, 3, 38, 2) := rfl
theorem f77_18 : gFetch 77 18 = some (.aload_n 0, 1, 0, 0) := rfl
theorem f77_19 : gFetch 77 19 = some (.iload_n 1, 1, 0, 0) := rfl
theorem f77_20 : gFetch 77 20 = some (.invokevirtual 107, 3, 108, 2) := rfl
theorem f77_23 : gFetch 77 23 = some (.iload_n 1, 1, 0, 0) := rfl
theorem f77_24 : gFetch 77 24 = some (.invokestatic 344, 3, 38, 2) := rfl
theorem f77_27 : gFetch 77 27 = some (.fcmp .l, 1, 0, 0) := rfl
theorem f77_28 : gFetch 77 28 = some (.ifCond .le 5, 3, 33, 0) := rfl
theorem f77_31 : gFetch 77 31 = some (.iload_n 2, 1, 0, 0) := rfl
theorem f77_32 : gFetch 77 32 = some (.istore_n 1, 1, 0, 0) := rfl
theorem f77_33 : gFetch 77 33 = some (.iinc 2 1, 3, 0, 0) := rfl
theorem f77_36 : gFetch 77 36 = some (.goto (-32), 3, 4, 0) := rfl
theorem f77_39 : gFetch 77 39 = some (.iload_n 1, 1, 0, 0) := rfl
theorem f77_40 : gFetch 77 40 = some (.ireturn, 1, 0, 0) := rfl
theorem f78_0 : gFetch 78 0 = some (.aload_n 0, 1, 0, 0) := rfl
theorem f78_1 : gFetch 78 1 = some (.iload_n 1, 1, 0, 0) := rfl
theorem f78_2 : gFetch 78 2 = some (.invokevirtual 214, 3, 35, 2) := rfl
theorem f78_5 : gFetch 78 5 = some (.astore_n 2, 1, 0, 0) := rfl
theorem f78_6 : gFetch 78 6 = some (.aload_n 2, 1, 0, 0) := rfl
theorem f78_7 : gFetch 78 7 = some (.getfield 218, 3, 3, 3) := rfl
theorem f78_10 : gFetch 78 10 = some (.iconst 1, 1, 0, 0) := rfl
theorem f78_11 : gFetch 78 11 = some (.iadd, 1, 0, 0) := rfl
theorem f78_12 : gFetch 78 12 = some (.istore_n 3, 1, 0, 0) := rfl
theorem f78_13 : gFetch 78 13 = some (.iload_n 3, 1, 0, 0) := rfl
theorem f78_14 : gFetch 78 14 = some (.bipush 100, 2, 0, 0) := rfl
theorem f78_16 : gFetch 78 16 = some (.if_icmp .ge 25, 3, 41, 0) := rfl
theorem f78_19 : gFetch 78 19 = some (.aload_n 0, 1, 0, 0) := rfl
theorem f78_20 : gFetch 78 20 = some (.aload_n 2, 1, 0, 0) := rfl
theorem f78_21 : gFetch 78 21 = some (.iload_n 3, 1, 0, 0) := rfl
theorem f78_22 : gFetch 78 22 = some (.invokevirtual 221, 3, 63, 3) := rfl
theorem f78_25 : gFetch 78 25 = some (.ifCond .eq 10, 3, 35, 0) := rfl
theorem f78_28 : gFetch 78 28 = some (.aload_n 2, 1, 0, 0) := rfl
theorem f78_29 : gFetch 78 29 = some (.iload_n 3, 1, 0, 0) := rfl
theorem f78_30 : gFetch 78 30 = some (.putfield 218, 3, 3, 3) := rfl
theorem f78_33 : gFetch 78 33 = some (.iload_n 3, 1, 0, 0) := rfl
theorem f78_34 : gFetch 78 34 = some (.ireturn, 1, 0, 0) := rfl
theorem f78_35 : gFetch 78 35 = some (.iinc 3 1, 3, 0, 0) := rfl
theorem f78_38 : gFetch 78 38 = some (.goto (-25), 3, 13, 0) := rfl
theorem f78_41 : gFetch 78 41 = some (.aload_n 2, 1, 0, 0) := rfl
theorem f78_42 : gFetch 78 42 = some (.bipush 100, 2, 0, 0) := rfl
theorem f78_44 : gFetch 78 44 = some (.putfield 218, 3, 3, 3) := rfl
theorem f78_47 : gFetch 78 47 = some (.iconst (-1), 1, 0, 0) := rfl
theorem f78_48 : gFetch 78 48 = some (.ireturn, 1, 0, 0) := rfl
theorem f79_0 : gFetch 79 0 = some (.aload_n 0, 1, 0, 0) := rfl
theorem f79_1 : gFetch 79 1 = some (.iload_n 1, 1, 0, 0) := rfl
theorem f79_2 : gFetch 79 2 = some (.invokevirtual 71, 3, 47, 2) := rfl
theorem f79_5 : gFetch 79 5 = some (.astore_n 3, 1, 0, 0) := rfl
theorem f79_6 : gFetch 79 6 = some (.aload_n 0, 1, 0, 0) := rfl
theorem f79_7 : gFetch 79 7 = some (.iload_n 2, 1, 0, 0) := rfl
theorem f79_8 : gFetch 79 8 = some (.invokevirtual 165, 3, 76, 2) := rfl
theorem f79_11 : gFetch 79 11 = some (.istore 4, 2, 0, 0) := rfl
theorem f79_13 : gFetch 79 13 = some (.aload_n 0, 1, 0, 0) := rfl
theorem f79_14 : gFetch 79 14 = some (.getfield 22, 3, 11, 3) := rfl
theorem f79_17 : gFetch 79 17 = some (.invokevirtual 45, 3, 173, 1) := rfl
theorem f79_20 : gFetch 79 20 = some (.iconst 4, 1, 0, 0) := rfl
theorem f79_21 : gFetch 79 21 = some (.if_icmp .lt 13, 3, 34, 0) := rfl
theorem f79_24 : gFetch 79 24 = some (.new 49, 3, 1002, 2) := rfl
theorem f79_27 : gFetch 79 27 = some (.dup, 1, 0, 0) := rfl
theorem f79_28 : gFetch 79 28 = some (.ldc 203, 2, 999, 0) := rfl
theorem f79_30 : gFetch 79 30 = some (.invokespecial 53, 3, 999, 0) := rfl
theorem f79_33 : gFetch 79 33 = some (.athrow, 1, 0, 0) := rfl
theorem f79_34 : gFetch 79 34 = some (.new 205, 3, 3, 0) := rfl
theorem f79_37 : gFetch 79 37 = some (.dup, 1, 0, 0) := rfl
theorem f79_38 : gFetch 79 38 = some (.aload_n 0, 1, 0, 0) := rfl
theorem f79_39 : gFetch 79 39 = some (.getfield 207, 3, 11, 9) := rfl
theorem f79_42 : gFetch 79 42 = some (.aload_n 3, 1, 0, 0) := rfl
theorem f79_43 : gFetch 79 43 = some (.iload 4, 2, 0, 0) := rfl
theorem f79_45 : gFetch 79 45 = some (.invokespecial 210, 3, 103, 4) := rfl
theorem f79_48 : gFetch 79 48 = some (.astore 5, 2, 0, 0) := rfl
theorem f79_50 : gFetch 79 50 = some (.aload_n 0, 1, 0, 0) := rfl
theorem f79_51 : gFetch 79 51 = some (.dup, 1, 0, 0) := rfl
theorem f79_52 : gFetch 79 52 = some (.getfield 207, 3, 11, 9) := rfl
theorem f79_55 : gFetch 79 55 = some (.iconst 1, 1, 0, 0) := rfl
theorem f79_56 : gFetch 79 56 = some (.iadd, 1, 0, 0) := rfl
theorem f79_57 : gFetch 79 57 = some (.putfield 207, 3, 11, 9) := rfl
theorem f79_60 : gFetch 79 60 = some (.aload_n 0, 1, 0, 0) := rfl
theorem f79_61 : gFetch 79 61 = some (.getfield 22, 3, 11, 3) := rfl
theorem f79_64 : gFetch 79 64 = some (.aload 5, 2, 0, 0) := rfl
theorem f79_66 : gFetch 79 66 = some (.invokevirtual 59, 3, 162, 2) := rfl
theorem f79_69 : gFetch 79 69 = some (.pop, 1, 0, 0) := rfl
theorem f79_70 : gFetch 79 70 = some (.aload 5, 2, 0, 0) := rfl
theorem f79_72 : gFetch 79 72 = some (.getfield 213, 3, 3, 0) := rfl
theorem f79_75 : gFetch 79 75 = some (.ireturn, 1, 0, 0) := rfl
theorem f80_0 : gFetch 80 0 = some (.new 7, 3, 0, 0) := rfl
theorem f80_3 : gFetch 80 3 = some (.dup, 1, 0, 0) := rfl
theorem f80_4 : gFetch 80 4 = some (.invokespecial 9, 3, 160, 1) := rfl
theorem f80_7 : gFetch 80 7 = some (.astore_n 3, 1, 0, 0) := rfl
theorem f80_8 : gFetch 80 8 = some (.iconst 0, 1, 0, 0) := rfl
theorem f80_9 : gFetch 80 9 = some (.istore 4, 2, 0, 0) := rfl
theorem f80_11 : gFetch 80 11 = some (.iload 4, 2, 0, 0) := rfl
theorem f80_13 : gFetch 80 13 = some (.aload_n 0, 1, 0, 0) := rfl
theorem f80_14 : gFetch 80 14 = some (.invokevirtual 45, 3, 173, 1) := rfl
theorem f80_17 : gFetch 80 17 = some (.if_icmp .ge 67, 3, 84, 0) := rfl
theorem f80_20 : gFetch 80 20 = some (.aload_n 0, 1, 0, 0) := rfl
theorem f80_21 : gFetch 80 21 = some (.iload 4, 2, 0, 0) := rfl
theorem f80_23 : gFetch 80 23 = some (.invokevirtual 135, 3, 167, 2) := rfl
theorem f80_26 : gFetch 80 26 = some (.checkcast 95, 3, 2, 0) := rfl
theorem f80_29 : gFetch 80 29 = some (.astore 5, 2, 0, 0) := rfl
theorem f80_31 : gFetch 80 31 = some (.aload 5, 2, 0, 0) := rfl
theorem f80_33 : gFetch 80 33 = some (.iload_n 1, 1, 0, 0) := rfl
theorem f80_34 : gFetch 80 34 = some (.iload_n 2, 1, 0, 0) := rfl
theorem f80_35 : gFetch 80 35 = some (.invokevirtual 147, 3, 102, 3) := rfl
theorem f80_38 : gFetch 80 38 = some (.ifCond .eq 40, 3, 78, 0) := rfl
theorem f80_41 : gFetch 80 41 = some (.aload_n 3, 1, 0, 0) := rfl
theorem f80_42 : gFetch 80 42 = some (.new 95, 3, 2, 0) := rfl
theorem f80_45 : gFetch 80 45 = some (.dup, 1, 0, 0) := rfl
theorem f80_46 : gFetch 80 46 = some (.iconst 3, 1, 0, 0) := rfl
theorem f80_47 : gFetch 80 47 = some (.aload 5, 2, 0, 0) := rfl
theorem f80_49 : gFetch 80 49 = some (.getfield 264, 3, 2, 1) := rfl
theorem f80_52 : gFetch 80 52 = some (.aload 5, 2, 0, 0) := rfl
theorem f80_54 : gFetch 80 54 = some (.getfield 383, 3, 2, 2) := rfl
theorem f80_57 : gFetch 80 57 = some (.iload_n 1, 1, 0, 0) := rfl
theorem f80_58 : gFetch 80 58 = some (.invokestatic 471, 3, 156, 2) := rfl
theorem f80_61 : gFetch 80 61 = some (.aload 5, 2, 0, 0) := rfl
theorem f80_63 : gFetch 80 63 = some (.getfield 464, 3, 2, 3) := rfl
theorem f80_66 : gFetch 80 66 = some (.iload_n 2, 1, 0, 0) := rfl
theorem f80_67 : gFetch 80 67 = some (.invokestatic 477, 3, 157, 2) := rfl
theorem f80_70 : gFetch 80 70 = some (.iconst 0, 1, 0, 0) := rfl
theorem f80_71 : gFetch 80 71 = some (.invokespecial 97, 3, 101, 6) := rfl
theorem f80_74 : gFetch 80 74 = some (.invokevirtual 59, 3, 162, 2) := rfl
theorem f80_77 : gFetch 80 77 = some (.pop, 1, 0, 0) := rfl
theorem f80_78 : gFetch 80 78 = some (.iinc 4 1, 3, 0, 0) := rfl
theorem f80_81 : gFetch 80 81 = some (.goto (-70), 3, 11, 0) := rfl
theorem f80_84 : gFetch 80 84 = some (.aload_n 3, 1, 0, 0) := rfl
theorem f80_85 : gFetch 80 85 = some (.areturn, 1, 0, 0) := rfl
theorem f81_0 : gFetch 81 0 = some (.aload_n 0, 1, 0, 0) := rfl
theorem f81_1 : gFetch 81 1 = some (.iload_n 1, 1, 0, 0) := rfl
theorem f81_2 : gFetch 81 2 = some (.iload_n 2, 1, 0, 0) := rfl
theorem f81_3 : gFetch 81 3 = some (.iload_n 3, 1, 0, 0) := rfl
theorem f81_4 : gFetch 81 4 = some (.invokevirtual 330, 3, 89, 4) := rfl
theorem f81_7 : gFetch 81 7 = some (.astore 5, 2, 0, 0) := rfl
theorem f81_9 : gFetch 81 9 = some (.iload 4, 2, 0, 0) := rfl
theorem f81_11 : gFetch 81 11 = some (.iload 4, 2, 0, 0) := rfl
theorem f81_13 : gFetch 81 13 = some (.invokestatic 75, 3, 29, 2) := rfl
theorem f81_16 : gFetch 81 16 = some (.aload 5, 2, 0, 0) := rfl
theorem f81_18 : gFetch 81 18 = some (.iload 4, 2, 0, 0) := rfl
theorem f81_20 : gFetch 81 20 = some (.invokevirtual 312, 3, 144, 2) := rfl
theorem f81_23 : gFetch 81 23 = some (.ireturn, 1, 0, 0) := rfl
theorem f82_0 : gFetch 82 0 = some (.iconst 0, 1, 0, 0) := rfl
theorem f82_1 : gFetch 82 1 = some (.istore_n 2, 1, 0, 0) := rfl
theorem f82_2 : gFetch 82 2 = some (.iload_n 2, 1, 0, 0) := rfl
theorem f82_3 : gFetch 82 3 = some (.aload_n 0, 1, 0, 0) := rfl
theorem f82_4 : gFetch 82 4 = some (.getfield 22, 3, 11, 3) := rfl
theorem f82_7 : gFetch 82 7 = some (.invokevirtual 45, 3, 173, 1) := rfl
theorem f82_10 : gFetch 82 10 = some (.if_icmp .ge 29, 3, 39, 0) := rfl
theorem f82_13 : gFetch 82 13 = some (.aload_n 0, 1, 0, 0) := rfl
theorem f82_14 : gFetch 82 14 = some (.getfield 22, 3, 11, 3) := rfl
theorem f82_17 : gFetch 82 17 = some (.iload_n 2, 1, 0, 0) := rfl
theorem f82_18 : gFetch 82 18 = some (.invokevirtual 135, 3, 167, 2) := rfl
theorem f82_21 : gFetch 82 21 = some (.checkcast 205, 3, 3, 0) := rfl
theorem f82_24 : gFetch 82 24 = some (.getfield 213, 3, 3, 0) := rfl
theorem f82_27 : gFetch 82 27 = some (.iload_n 1, 1, 0, 0) := rfl
theorem f82_28 : gFetch 82 28 = some (.if_icmp .ne 5, 3, 33, 0) := rfl
theorem f82_31 : gFetch 82 31 = some (.iload_n 2, 1, 0, 0) := rfl
theorem f82_32 : gFetch 82 32 = some (.ireturn, 1, 0, 0) := rfl
theorem f82_33 : gFetch 82 33 = some (.iinc 2 1, 3, 0, 0) := rfl
theorem f82_36 : gFetch 82 36 = some (.goto (-34), 3, 2, 0) := rfl
theorem f82_39 : gFetch 82 39 = some (.iconst (-1), 1, 0, 0) := rfl
theorem f82_40 : gFetch 82 40 = some (.ireturn, 1, 0, 0) := rfl
theorem f83_0 : gFetch 83 0 = some (.iconst 0, 1, 0, 0) := rfl
theorem f83_1 : gFetch 83 1 = some (.istore_n 2, 1, 0, 0) := rfl
theorem f83_2 : gFetch 83 2 = some (.iload_n 2, 1, 0, 0) := rfl
theorem f83_3 : gFetch 83 3 = some (.aload_n 0, 1, 0, 0) := rfl
theorem f83_4 : gFetch 83 4 = some (.getfield 19, 3, 11, 2) := rfl
theorem f83_7 : gFetch 83 7 = some (.invokevirtual 45, 3, 173, 1) := rfl
theorem f83_10 : gFetch 83 10 = some (.if_icmp .ge 29, 3, 39, 0) := rfl
theorem f83_13 : gFetch 83 13 = some (.aload_n 0, 1, 0, 0) := rfl
theorem f83_14 : gFetch 83 14 = some (.getfield 19, 3, 11, 2) := rfl
theorem f83_17 : gFetch 83 17 = some (.iload_n 2, 1, 0, 0) := rfl
theorem f83_18 : gFetch 83 18 = some (.invokevirtual 135, 3, 167, 2) := rfl
theorem f83_21 : gFetch 83 21 = some (.checkcast 182, 3, 9, 0) := rfl
theorem f83_24 : gFetch 83 24 = some (.getfield 189, 3, 9, 0) := rfl
theorem f83_27 : gFetch 83 27 = some (.iload_n 1, 1, 0, 0) := rfl
theorem f83_28 : gFetch 83 28 = some (.if_icmp .ne 5, 3, 33, 0) := rfl
theorem f83_31 : gFetch 83 31 = some (.iload_n 2, 1, 0, 0) := rfl
theorem f83_32 : gFetch 83 32 = some (.ireturn, 1, 0, 0) := rfl
theorem f83_33 : gFetch 83 33 = some (.iinc 2 1, 3, 0, 0) := rfl
theorem f83_36 : gFetch 83 36 = some (.goto (-34), 3, 2, 0) := rfl
theorem f83_39 : gFetch 83 39 = some (.iconst (-1), 1, 0, 0) := rfl
theorem f83_40 : gFetch 83 40 = some (.ireturn, 1, 0, 0) := rfl
theorem f84_0 : gFetch 84 0 = some (.aload_n 0, 1, 0, 0) := rfl
theorem f84_1 : gFetch 84 1 = some (.iload_n 1, 1, 0, 0) := rfl
theorem f84_2 : gFetch 84 2 = some (.invokevirtual 214, 3, 35, 2) := rfl
theorem f84_5 : gFetch 84 5 = some (.astore_n 2, 1, 0, 0) := rfl
theorem f84_6 : gFetch 84 6 = some (.aload_n 2, 1, 0, 0) := rfl
theorem f84_7 : gFetch 84 7 = some (.getfield 218, 3, 3, 3) := rfl
theorem f84_10 : gFetch 84 10 = some (.iconst 1, 1, 0, 0) := rfl
theorem f84_11 : gFetch 84 11 = some (.isub, 1, 0, 0) := rfl
theorem f84_12 : gFetch 84 12 = some (.istore_n 3, 1, 0, 0) := rfl
theorem f84_13 : gFetch 84 13 = some (.iload_n 3, 1, 0, 0) := rfl
theorem f84_14 : gFetch 84 14 = some (.ifCond .lt 25, 3, 39, 0) := rfl
theorem f84_17 : gFetch 84 17 = some (.aload_n 0, 1, 0, 0) := rfl
theorem f84_18 : gFetch 84 18 = some (.aload_n 2, 1, 0, 0) := rfl
theorem f84_19 : gFetch 84 19 = some (.iload_n 3, 1, 0, 0) := rfl
theorem f84_20 : gFetch 84 20 = some (.invokevirtual 221, 3, 63, 3) := rfl
theorem f84_23 : gFetch 84 23 = some (.ifCond .eq 10, 3, 33, 0) := rfl
theorem f84_26 : gFetch 84 26 = some (.aload_n 2, 1, 0, 0) := rfl
theorem f84_27 : gFetch 84 27 = some (.iload_n 3, 1, 0, 0) := rfl
theorem f84_28 : gFetch 84 28 = some (.putfield 218, 3, 3, 3) := rfl
theorem f84_31 : gFetch 84 31 = some (.iload_n 3, 1, 0, 0) := rfl
theorem f84_32 : gFetch 84 32 = some (.ireturn, 1, 0, 0) := rfl
theorem f84_33 : gFetch 84 33 = some (.iinc 3 (-1), 3, 0, 0) := rfl
theorem f84_36 : gFetch 84 36 = some (.goto (-23), 3, 13, 0) := rfl
theorem f84_39 : gFetch 84 39 = some (.aload_n 2, 1, 0, 0) := rfl
theorem f84_40 : gFetch 84 40 = some (.iconst (-1), 1, 0, 0) := rfl
theorem f84_41 : gFetch 84 41 = some (.putfield 218, 3, 3, 3) := rfl
theorem f84_44 : gFetch 84 44 = some (.iconst (-1), 1, 0, 0) := rfl
theorem f84_45 : gFetch 84 45 = some (.ireturn, 1, 0, 0) := rfl
theorem f85_0 : gFetch 85 0 = some (.aload_n 0, 1, 0, 0) := rfl
theorem f85_1 : gFetch 85 1 = some (.iload_n 1, 1, 0, 0) := rfl
theorem f85_2 : gFetch 85 2 = some (.iconst 1, 1, 0, 0) := rfl
theorem f85_3 : gFetch 85 3 = some (.iload_n 2, 1, 0, 0) := rfl
theorem f85_4 : gFetch 85 4 = some (.iload_n 2, 1, 0, 0) := rfl
theorem f85_5 : gFetch 85 5 = some (.iload_n 3, 1, 0, 0) := rfl
theorem f85_6 : gFetch 85 6 = some (.invokevirtual 67, 3, 99, 6) := rfl
theorem f85_9 : gFetch 85 9 = some (.ireturn, 1, 0, 0) := rfl
theorem f86_0 : gFetch 86 0 = some (.aload_n 0, 1, 0, 0) := rfl
theorem f86_1 : gFetch 86 1 = some (.iload_n 1, 1, 0, 0) := rfl
theorem f86_2 : gFetch 86 2 = some (.iload_n 2, 1, 0, 0) := rfl
theorem f86_3 : gFetch 86 3 = some (.iload_n 3, 1, 0, 0) := rfl
theorem f86_4 : gFetch 86 4 = some (.invokevirtual 330, 3, 89, 4) := rfl
theorem f86_7 : gFetch 86 7 = some (.getfield 335, 3, 8, 3) := rfl
theorem f86_10 : gFetch 86 10 = some (.invokevirtual 45, 3, 173, 1) := rfl
theorem f86_13 : gFetch 86 13 = some (.ireturn, 1, 0, 0) := rfl
theorem f87_0 : gFetch 87 0 = some (.aload_n 0, 1, 0, 0) := rfl
theorem f87_1 : gFetch 87 1 = some (.iload_n 1, 1, 0, 0) := rfl
theorem f87_2 : gFetch 87 2 = some (.invokevirtual 192, 3, 83, 2) := rfl
theorem f87_5 : gFetch 87 5 = some (.istore_n 2, 1, 0, 0) := rfl
theorem f87_6 : gFetch 87 6 = some (.iload_n 2, 1, 0, 0) := rfl
theorem f87_7 : gFetch 87 7 = some (.ifCond .lt 14, 3, 21, 0) := rfl
theorem f87_10 : gFetch 87 10 = some (.iload_n 2, 1, 0, 0) := rfl
theorem f87_11 : gFetch 87 11 = some (.aload_n 0, 1, 0, 0) := rfl
theorem f87_12 : gFetch 87 12 = some (.getfield 19, 3, 11, 2) := rfl
theorem f87_15 : gFetch 87 15 = some (.invokevirtual 45, 3, 173, 1) := rfl
theorem f87_18 : gFetch 87 18 = some (.if_icmp .lt 13, 3, 31, 0) := rfl
theorem f87_21 : gFetch 87 21 = some (.new 195, 3, 1000, 2) := rfl
theorem f87_24 : gFetch 87 24 = some (.dup, 1, 0, 0) := rfl
theorem f87_25 : gFetch 87 25 = some (.ldc 197, 2, 999, 0) := rfl
theorem f87_27 : gFetch 87 27 = some (.invokespecial 199, 3, 999, 0) := rfl
theorem f87_30 : gFetch 87 30 = some (.athrow, 1, 0, 0) := rfl
theorem f87_31 : gFetch 87 31 = some (.aload_n 0, 1, 0, 0) := rfl
theorem f87_32 : gFetch 87 32 = some (.getfield 19, 3, 11, 2) := rfl
theorem f87_35 : gFetch 87 35 = some (.iload_n 2, 1, 0, 0) := rfl
theorem f87_36 : gFetch 87 36 = some (.invokevirtual 200, 3, 172, 2) := rfl
theorem f87_39 : gFetch 87 39 = some (.pop, 1, 0, 0) := rfl
theorem f87_40 : gFetch 87 40 = some (.aload_n 0, 1, 0, 0) := rfl
theorem f87_41 : gFetch 87 41 = some (.getfield 19, 3, 11, 2) := rfl
theorem f87_44 : gFetch 87 44 = some (.invokevirtual 45, 3, 173, 1) := rfl
theorem f87_47 : gFetch 87 47 = some (.ireturn, 1, 0, 0) := rfl
theorem f88_0 : gFetch 88 0 = some (.aload_n 0, 1, 0, 0) := rfl
theorem f88_1 : gFetch 88 1 = some (.iload_n 1, 1, 0, 0) := rfl
theorem f88_2 : gFetch 88 2 = some (.invokevirtual 499, 3, 24, 2) := rfl
theorem f88_5 : gFetch 88 5 = some (.astore_n 2, 1, 0, 0) := rfl
theorem f88_6 : gFetch 88 6 = some (.iconst 0, 1, 0, 0) := rfl
theorem f88_7 : gFetch 88 7 = some (.istore_n 3, 1, 0, 0) := rfl
theorem f88_8 : gFetch 88 8 = some (.iconst 0, 1, 0, 0) := rfl
theorem f88_9 : gFetch 88 9 = some (.istore 4, 2, 0, 0) := rfl
theorem f88_11 : gFetch 88 11 = some (.iload 4, 2, 0, 0) := rfl
theorem f88_13 : gFetch 88 13 = some (.aload_n 0, 1, 0, 0) := rfl
theorem f88_14 : gFetch 88 14 = some (.getfield 10, 3, 11, 0) := rfl
theorem f88_17 : gFetch 88 17 = some (.invokevirtual 45, 3, 173, 1) := rfl
theorem f88_20 : gFetch 88 20 = some (.if_icmp .ge 85, 3, 105, 0) := rfl
theorem f88_23 : gFetch 88 23 = some (.aload_n 0, 1, 0, 0) := rfl
theorem f88_24 : gFetch 88 24 = some (.getfield 10, 3, 11, 0) := rfl
theorem f88_27 : gFetch 88 27 = some (.iload 4, 2, 0, 0) := rfl
theorem f88_29 : gFetch 88 29 = some (.invokevirtual 135, 3, 167, 2) := rfl
theorem f88_32 : gFetch 88 32 = some (.checkcast 54, 3, 4, 0) := rfl
theorem f88_35 : gFetch 88 35 = some (.astore 5, 2, 0, 0) := rfl
theorem f88_37 : gFetch 88 37 = some (.iload 4, 2, 0, 0) := rfl
theorem f88_39 : gFetch 88 39 = some (.aload_n 2, 1, 0, 0) := rfl
theorem f88_40 : gFetch 88 40 = some (.getfield 503, 3, 1, 0) := rfl
theorem f88_43 : gFetch 88 43 = some (.invokevirtual 45, 3, 173, 1) := rfl
theorem f88_46 : gFetch 88 46 = some (.if_icmp .ge 23, 3, 69, 0) := rfl
theorem f88_49 : gFetch 88 49 = some (.aload 5, 2, 0, 0) := rfl
theorem f88_51 : gFetch 88 51 = some (.aload_n 2, 1, 0, 0) := rfl
theorem f88_52 : gFetch 88 52 = some (.getfield 503, 3, 1, 0) := rfl
theorem f88_55 : gFetch 88 55 = some (.iload 4, 2, 0, 0) := rfl
theorem f88_57 : gFetch 88 57 = some (.invokevirtual 135, 3, 167, 2) := rfl
theorem f88_60 : gFetch 88 60 = some (.checkcast 54, 3, 4, 0) := rfl
theorem f88_63 : gFetch 88 63 = some (.invokevirtual 504, 3, 105, 2) := rfl
theorem f88_66 : gFetch 88 66 = some (.goto 25, 3, 91, 0) := rfl
theorem f88_69 : gFetch 88 69 = some (.aload 5, 2, 0, 0) := rfl
theorem f88_71 : gFetch 88 71 = some (.new 54, 3, 4, 0) := rfl
theorem f88_74 : gFetch 88 74 = some (.dup, 1, 0, 0) := rfl
theorem f88_75 : gFetch 88 75 = some (.aload 5, 2, 0, 0) := rfl
theorem f88_77 : gFetch 88 77 = some (.getfield 63, 3, 4, 0) := rfl
theorem f88_80 : gFetch 88 80 = some (.aload 5, 2, 0, 0) := rfl
theorem f88_82 : gFetch 88 82 = some (.getfield 270, 3, 4, 1) := rfl
theorem f88_85 : gFetch 88 85 = some (.invokespecial 56, 3, 104, 3) := rfl
theorem f88_88 : gFetch 88 88 = some (.invokevirtual 504, 3, 105, 2) := rfl
theorem f88_91 : gFetch 88 91 = some (.iload_n 3, 1, 0, 0) := rfl
theorem f88_92 : gFetch 88 92 = some (.aload 5, 2, 0, 0) := rfl
theorem f88_94 : gFetch 88 94 = some (.invokevirtual 507, 3, 106, 1) := rfl
theorem f88_97 : gFetch 88 97 = some (.iadd, 1, 0, 0) := rfl
theorem f88_98 : gFetch 88 98 = some (.istore_n 3, 1, 0, 0) := rfl
theorem f88_99 : gFetch 88 99 = some (.iinc 4 1, 3, 0, 0) := rfl
theorem f88_102 : gFetch 88 102 = some (.goto (-91), 3, 11, 0) := rfl
theorem f88_105 : gFetch 88 105 = some (.iconst 0, 1, 0, 0) := rfl
theorem f88_106 : gFetch 88 106 = some (.istore 4, 2, 0, 0) := rfl
theorem f88_108 : gFetch 88 108 = some (.iload 4, 2, 0, 0) := rfl
theorem f88_110 : gFetch 88 110 = some (.aload_n 0, 1, 0, 0) := rfl
theorem f88_111 : gFetch 88 111 = some (.getfield 16, 3, 11, 1) := rfl
theorem f88_114 : gFetch 88 114 = some (.invokevirtual 45, 3, 173, 1) := rfl
theorem f88_117 : gFetch 88 117 = some (.if_icmp .ge 45, 3, 162, 0) := rfl
theorem f88_120 : gFetch 88 120 = some (.aload_n 0, 1, 0, 0) := rfl
theorem f88_121 : gFetch 88 121 = some (.getfield 16, 3, 11, 1) := rfl
theorem f88_124 : gFetch 88 124 = some (.iload 4, 2, 0, 0) := rfl
theorem f88_126 : gFetch 88 126 = some (.invokevirtual 135, 3, 167, 2) := rfl
theorem f88_129 : gFetch 88 129 = some (.checkcast 93, 3, 10, 0) := rfl
theorem f88_132 : gFetch 88 132 = some (.iload 4, 2, 0, 0) := rfl
theorem f88_134 : gFetch 88 134 = some (.aload_n 2, 1, 0, 0) := rfl
theorem f88_135 : gFetch 88 135 = some (.getfield 510, 3, 1, 1) := rfl
theorem f88_138 : gFetch 88 138 = some (.arraylength, 1, 0, 0) := rfl
theorem f88_139 : gFetch 88 139 = some (.if_icmp .ge 13, 3, 152, 0) := rfl
theorem f88_142 : gFetch 88 142 = some (.aload_n 2, 1, 0, 0) := rfl
theorem f88_143 : gFetch 88 143 = some (.getfield 510, 3, 1, 1) := rfl
theorem f88_146 : gFetch 88 146 = some (.iload 4, 2, 0, 0) := rfl
theorem f88_148 : gFetch 88 148 = some (.iaload, 1, 0, 0) := rfl
theorem f88_149 : gFetch 88 149 = some (.goto 4, 3, 153, 0) := rfl
theorem f88_152 : gFetch 88 152 = some (.iconst 0, 1, 0, 0) := rfl
theorem f88_153 : gFetch 88 153 = some (.putfield 373, 3, 10, 3) := rfl
theorem f88_156 : gFetch 88 156 = some (.iinc 4 1, 3, 0, 0) := rfl
theorem f88_159 : gFetch 88 159 = some (.goto (-51), 3, 108, 0) := rfl
theorem f88_162 : gFetch 88 162 = some (.aload_n 0, 1, 0, 0) := rfl
theorem f88_163 : gFetch 88 163 = some (.invokevirtual 489, 3, 53, 1) := rfl
theorem f88_166 : gFetch 88 166 = some (.aload_n 0, 1, 0, 0) := rfl
theorem f88_167 : gFetch 88 167 = some (.dup, 1, 0, 0) := rfl
theorem f88_168 : gFetch 88 168 = some (.getfield 121, 3, 11, 12) := rfl
theorem f88_171 : gFetch 88 171 = some (.iconst 1, 1, 0, 0) := rfl
theorem f88_172 : gFetch 88 172 = some (.iadd, 1, 0, 0) := rfl
theorem f88_173 : gFetch 88 173 = some (.putfield 121, 3, 11, 12) := rfl
theorem f88_176 : gFetch 88 176 = some (.iload_n 3, 1, 0, 0) := rfl
theorem f88_177 : gFetch 88 177 = some (.ireturn, 1, 0, 0) := rfl
theorem f89_0 : gFetch 89 0 = some (.aload_n 0, 1, 0, 0) := rfl
theorem f89_1 : gFetch 89 1 = some (.iload_n 1, 1, 0, 0) := rfl
theorem f89_2 : gFetch 89 2 = some (.iload_n 2, 1, 0, 0) := rfl
theorem f89_3 : gFetch 89 3 = some (.invokevirtual 326, 3, 68, 3) := rfl
theorem f89_6 : gFetch 89 6 = some (.astore 4, 2, 0, 0) := rfl
theorem f89_8 : gFetch 89 8 = some (.iload_n 3, 1, 0, 0) := rfl
theorem f89_9 : gFetch 89 9 = some (.ifCond .lt 12, 3, 21, 0) := rfl
theorem f89_12 : gFetch 89 12 = some (.iload_n 3, 1, 0, 0) := rfl
theorem f89_13 : gFetch 89 13 = some (.aload 4, 2, 0, 0) := rfl
theorem f89_15 : gFetch 89 15 = some (.invokevirtual 127, 3, 119, 1) := rfl
theorem f89_18 : gFetch 89 18 = some (.if_icmp .lt 14, 3, 32, 0) := rfl
theorem f89_21 : gFetch 89 21 = some (.new 195, 3, 1000, 3) := rfl
theorem f89_24 : gFetch 89 24 = some (.dup, 1, 0, 0) := rfl
theorem f89_25 : gFetch 89 25 = some (.ldc_w 550, 3, 999, 0) := rfl
theorem f89_28 : gFetch 89 28 = some (.invokespecial 199, 3, 999, 0) := rfl
theorem f89_31 : gFetch 89 31 = some (.athrow, 1, 0, 0) := rfl
theorem f89_32 : gFetch 89 32 = some (.aload 4, 2, 0, 0) := rfl
theorem f89_34 : gFetch 89 34 = some (.getfield 281, 3, 6, 0) := rfl
theorem f89_37 : gFetch 89 37 = some (.iload_n 3, 1, 0, 0) := rfl
theorem f89_38 : gFetch 89 38 = some (.invokevirtual 135, 3, 167, 2) := rfl
theorem f89_41 : gFetch 89 41 = some (.checkcast 284, 3, 8, 0) := rfl
theorem f89_44 : gFetch 89 44 = some (.areturn, 1, 0, 0) := rfl
theorem f90_0 : gFetch 90 0 = some (.aload_n 0, 1, 0, 0) := rfl
theorem f90_1 : gFetch 90 1 = some (.iload_n 1, 1, 0, 0) := rfl
theorem f90_2 : gFetch 90 2 = some (.iload_n 2, 1, 0, 0) := rfl
theorem f90_3 : gFetch 90 3 = some (.invokevirtual 326, 3, 68, 3) := rfl
theorem f90_6 : gFetch 90 6 = some (.invokevirtual 127, 3, 119, 1) := rfl
theorem f90_9 : gFetch 90 9 = some (.ireturn, 1, 0, 0) := rfl
theorem f91_0 : gFetch 91 0 = some (.aload_n 0, 1, 0, 0) := rfl
theorem f91_1 : gFetch 91 1 = some (.iload_n 1, 1, 0, 0) := rfl
theorem f91_2 : gFetch 91 2 = some (.invokevirtual 499, 3, 24, 2) := rfl
theorem f91_5 : gFetch 91 5 = some (.astore_n 3, 1, 0, 0) := rfl
theorem f91_6 : gFetch 91 6 = some (.aload_n 0, 1, 0, 0) := rfl
theorem f91_7 : gFetch 91 7 = some (.iload_n 2, 1, 0, 0) := rfl
theorem f91_8 : gFetch 91 8 = some (.invokevirtual 499, 3, 24, 2) := rfl
theorem f91_11 : gFetch 91 11 = some (.astore 4, 2, 0, 0) := rfl
theorem f91_13 : gFetch 91 13 = some (.iconst 0, 1, 0, 0) := rfl
theorem f91_14 : gFetch 91 14 = some (.istore 5, 2, 0, 0) := rfl
theorem f91_16 : gFetch 91 16 = some (.iconst 0, 1, 0, 0) := rfl
theorem f91_17 : gFetch 91 17 = some (.istore 6, 2, 0, 0) := rfl
theorem f91_19 : gFetch 91 19 = some (.iload 6, 2, 0, 0) := rfl
theorem f91_21 : gFetch 91 21 = some (.aload_n 3, 1, 0, 0) := rfl
theorem f91_22 : gFetch 91 22 = some (.getfield 503, 3, 1, 0) := rfl
theorem f91_25 : gFetch 91 25 = some (.invokevirtual 45, 3, 173, 1) := rfl
theorem f91_28 : gFetch 91 28 = some (.if_icmp .ge 55, 3, 83, 0) := rfl
theorem f91_31 : gFetch 91 31 = some (.iload 6, 2, 0, 0) := rfl
theorem f91_33 : gFetch 91 33 = some (.aload 4, 2, 0, 0) := rfl
theorem f91_35 : gFetch 91 35 = some (.getfield 503, 3, 1, 0) := rfl
theorem f91_38 : gFetch 91 38 = some (.invokevirtual 45, 3, 173, 1) := rfl
theorem f91_41 : gFetch 91 41 = some (.if_icmp .ge 42, 3, 83, 0) := rfl
theorem f91_44 : gFetch 91 44 = some (.iload 5, 2, 0, 0) := rfl
theorem f91_46 : gFetch 91 46 = some (.aload_n 3, 1, 0, 0) := rfl
theorem f91_47 : gFetch 91 47 = some (.getfield 503, 3, 1, 0) := rfl
theorem f91_50 : gFetch 91 50 = some (.iload 6, 2, 0, 0) := rfl
theorem f91_52 : gFetch 91 52 = some (.invokevirtual 135, 3, 167, 2) := rfl
theorem f91_55 : gFetch 91 55 = some (.checkcast 54, 3, 4, 0) := rfl
theorem f91_58 : gFetch 91 58 = some (.aload 4, 2, 0, 0) := rfl
theorem f91_60 : gFetch 91 60 = some (.getfield 503, 3, 1, 0) := rfl
theorem f91_63 : gFetch 91 63 = some (.iload 6, 2, 0, 0) := rfl
theorem f91_65 : gFetch 91 65 = some (.invokevirtual 135, 3, 167, 2) := rfl
theorem f91_68 : gFetch 91 68 = some (.checkcast 54, 3, 4, 0) := rfl
theorem f91_71 : gFetch 91 71 = some (.invokevirtual 514, 3, 107, 2) := rfl
theorem f91_74 : gFetch 91 74 = some (.iadd, 1, 0, 0) := rfl
theorem f91_75 : gFetch 91 75 = some (.istore 5, 2, 0, 0) := rfl
theorem f91_77 : gFetch 91 77 = some (.iinc 6 1, 3, 0, 0) := rfl
theorem f91_80 : gFetch 91 80 = some (.goto (-61), 3, 19, 0) := rfl
theorem f91_83 : gFetch 91 83 = some (.iload 5, 2, 0, 0) := rfl
theorem f91_85 : gFetch 91 85 = some (.ireturn, 1, 0, 0) := rfl
theorem f92_0 : gFetch 92 0 = some (.aload_n 0, 1, 0, 0) := rfl
theorem f92_1 : gFetch 92 1 = some (.getfield 35, 3, 11, 6) := rfl
theorem f92_4 : gFetch 92 4 = some (.invokevirtual 295, 3, 164, 1) := rfl
theorem f92_7 : gFetch 92 7 = some (.iconst 0, 1, 0, 0) := rfl
theorem f92_8 : gFetch 92 8 = some (.istore_n 2, 1, 0, 0) := rfl
theorem f92_9 : gFetch 92 9 = some (.iload_n 2, 1, 0, 0) := rfl
theorem f92_10 : gFetch 92 10 = some (.aload_n 1, 1, 0, 0) := rfl
theorem f92_11 : gFetch 92 11 = some (.getfield 417, 3, 7, 2) := rfl
theorem f92_14 : gFetch 92 14 = some (.invokevirtual 45, 3, 173, 1) := rfl
theorem f92_17 : gFetch 92 17 = some (.if_icmp .ge 31, 3, 48, 0) := rfl
theorem f92_20 : gFetch 92 20 = some (.aload_n 1, 1, 0, 0) := rfl
theorem f92_21 : gFetch 92 21 = some (.getfield 417, 3, 7, 2) := rfl
theorem f92_24 : gFetch 92 24 = some (.iload_n 2, 1, 0, 0) := rfl
theorem f92_25 : gFetch 92 25 = some (.invokevirtual 135, 3, 167, 2) := rfl
theorem f92_28 : gFetch 92 28 = some (.checkcast 284, 3, 8, 0) := rfl
theorem f92_31 : gFetch 92 31 = some (.aload_n 1, 1, 0, 0) := rfl
theorem f92_32 : gFetch 92 32 = some (.getfield 408, 3, 7, 5) := rfl
theorem f92_35 : gFetch 92 35 = some (.aload_n 0, 1, 0, 0) := rfl
theorem f92_36 : gFetch 92 36 = some (.getfield 35, 3, 11, 6) := rfl
theorem f92_39 : gFetch 92 39 = some (.invokevirtual 298, 3, 139, 3) := rfl
theorem f92_42 : gFetch 92 42 = some (.iinc 2 1, 3, 0, 0) := rfl
theorem f92_45 : gFetch 92 45 = some (.goto (-36), 3, 9, 0) := rfl
theorem f92_48 : gFetch 92 48 = some (.aload_n 0, 1, 0, 0) := rfl
theorem f92_49 : gFetch 92 49 = some (.getfield 35, 3, 11, 6) := rfl
theorem f92_52 : gFetch 92 52 = some (.invokevirtual 45, 3, 173, 1) := rfl
theorem f92_55 : gFetch 92 55 = some (.newarray .boolean, 2, 0, 0) := rfl
theorem f92_57 : gFetch 92 57 = some (.astore_n 2, 1, 0, 0) := rfl
theorem f92_58 : gFetch 92 58 = some (.aload_n 0, 1, 0, 0) := rfl
theorem f92_59 : gFetch 92 59 = some (.aload_n 0, 1, 0, 0) := rfl
theorem f92_60 : gFetch 92 60 = some (.getfield 16, 3, 11, 1) := rfl
theorem f92_63 : gFetch 92 63 = some (.invokevirtual 45, 3, 173, 1) := rfl
theorem f92_66 : gFetch 92 66 = some (.aload_n 2, 1, 0, 0) := rfl
theorem f92_67 : gFetch 92 67 = some (.invokevirtual 420, 3, 65, 3) := rfl
theorem f92_70 : gFetch 92 70 = some (.iconst 0, 1, 0, 0) := rfl
theorem f92_71 : gFetch 92 71 = some (.istore_n 3, 1, 0, 0) := rfl
theorem f92_72 : gFetch 92 72 = some (.iload_n 3, 1, 0, 0) := rfl
theorem f92_73 : gFetch 92 73 = some (.aload_n 0, 1, 0, 0) := rfl
theorem f92_74 : gFetch 92 74 = some (.getfield 19, 3, 11, 2) := rfl
theorem f92_77 : gFetch 92 77 = some (.invokevirtual 45, 3, 173, 1) := rfl
theorem f92_80 : gFetch 92 80 = some (.if_icmp .ge 28, 3, 108, 0) := rfl
theorem f92_83 : gFetch 92 83 = some (.aload_n 0, 1, 0, 0) := rfl
theorem f92_84 : gFetch 92 84 = some (.aload_n 0, 1, 0, 0) := rfl
theorem f92_85 : gFetch 92 85 = some (.getfield 19, 3, 11, 2) := rfl
theorem f92_88 : gFetch 92 88 = some (.iload_n 3, 1, 0, 0) := rfl
theorem f92_89 : gFetch 92 89 = some (.invokevirtual 135, 3, 167, 2) := rfl
theorem f92_92 : gFetch 92 92 = some (.checkcast 182, 3, 9, 0) := rfl
theorem f92_95 : gFetch 92 95 = some (.getfield 254, 3, 9, 1) := rfl
theorem f92_98 : gFetch 92 98 = some (.aload_n 2, 1, 0, 0) := rfl
theorem f92_99 : gFetch 92 99 = some (.invokevirtual 420, 3, 65, 3) := rfl
theorem f92_102 : gFetch 92 102 = some (.iinc 3 1, 3, 0, 0) := rfl
theorem f92_105 : gFetch 92 105 = some (.goto (-33), 3, 72, 0) := rfl
theorem f92_108 : gFetch 92 108 = some (.iconst 0, 1, 0, 0) := rfl
theorem f92_109 : gFetch 92 109 = some (.istore_n 3, 1, 0, 0) := rfl
theorem f92_110 : gFetch 92 110 = some (.iload_n 3, 1, 0, 0) := rfl
theorem f92_111 : gFetch 92 111 = some (.aload_n 0, 1, 0, 0) := rfl
theorem f92_112 : gFetch 92 112 = some (.getfield 22, 3, 11, 3) := rfl
theorem f92_115 : gFetch 92 115 = some (.invokevirtual 45, 3, 173, 1) := rfl
theorem f92_118 : gFetch 92 118 = some (.if_icmp .ge 28, 3, 146, 0) := rfl
theorem f92_121 : gFetch 92 121 = some (.aload_n 0, 1, 0, 0) := rfl
theorem f92_122 : gFetch 92 122 = some (.aload_n 0, 1, 0, 0) := rfl
theorem f92_123 : gFetch 92 123 = some (.getfield 22, 3, 11, 3) := rfl
theorem f92_126 : gFetch 92 126 = some (.iload_n 3, 1, 0, 0) := rfl
theorem f92_127 : gFetch 92 127 = some (.invokevirtual 135, 3, 167, 2) := rfl
theorem f92_130 : gFetch 92 130 = some (.checkcast 205, 3, 3, 0) := rfl
theorem f92_133 : gFetch 92 133 = some (.getfield 238, 3, 3, 2) := rfl
theorem f92_136 : gFetch 92 136 = some (.aload_n 2, 1, 0, 0) := rfl
theorem f92_137 : gFetch 92 137 = some (.invokevirtual 420, 3, 65, 3) := rfl
theorem f92_140 : gFetch 92 140 = some (.iinc 3 1, 3, 0, 0) := rfl
theorem f92_143 : gFetch 92 143 = some (.goto (-33), 3, 110, 0) := rfl
theorem f92_146 : gFetch 92 146 = some (.aload_n 1, 1, 0, 0) := rfl
theorem f92_147 : gFetch 92 147 = some (.getfield 424, 3, 7, 0) := rfl
theorem f92_150 : gFetch 92 150 = some (.aload_n 1, 1, 0, 0) := rfl
theorem f92_151 : gFetch 92 151 = some (.getfield 425, 3, 7, 1) := rfl
theorem f92_154 : gFetch 92 154 = some (.iconst 1, 1, 0, 0) := rfl
theorem f92_155 : gFetch 92 155 = some (.iadd, 1, 0, 0) := rfl
theorem f92_156 : gFetch 92 156 = some (.aload_n 1, 1, 0, 0) := rfl
theorem f92_157 : gFetch 92 157 = some (.getfield 408, 3, 7, 5) := rfl
theorem f92_160 : gFetch 92 160 = some (.aload_n 1, 1, 0, 0) := rfl
theorem f92_161 : gFetch 92 161 = some (.getfield 408, 3, 7, 5) := rfl
theorem f92_164 : gFetch 92 164 = some (.invokevirtual 428, 3, 111, 4) := rfl
theorem f92_167 : gFetch 92 167 = some (.ifCond .ne 8, 3, 175, 0) := rfl
theorem f92_170 : gFetch 92 170 = some (.aload_n 0, 1, 0, 0) := rfl
theorem f92_171 : gFetch 92 171 = some (.aload_n 2, 1, 0, 0) := rfl
theorem f92_172 : gFetch 92 172 = some (.invokevirtual 432, 3, 42, 2) := rfl
theorem f92_175 : gFetch 92 175 = some (.iconst 0, 1, 0, 0) := rfl
theorem f92_176 : gFetch 92 176 = some (.istore_n 3, 1, 0, 0) := rfl
theorem f92_177 : gFetch 92 177 = some (.iload_n 3, 1, 0, 0) := rfl
theorem f92_178 : gFetch 92 178 = some (.aload_n 0, 1, 0, 0) := rfl
theorem f92_179 : gFetch 92 179 = some (.getfield 35, 3, 11, 6) := rfl
theorem f92_182 : gFetch 92 182 = some (.invokevirtual 45, 3, 173, 1) := rfl
theorem f92_185 : gFetch 92 185 = some (.if_icmp .ge 66, 3, 251, 0) := rfl
theorem f92_188 : gFetch 92 188 = some (.iload_n 3, 1, 0, 0) := rfl
theorem f92_189 : gFetch 92 189 = some (.aload_n 2, 1, 0, 0) := rfl
theorem f92_190 : gFetch 92 190 = some (.arraylength, 1, 0, 0) := rfl
theorem f92_191 : gFetch 92 191 = some (.if_icmp .ge 60, 3, 251, 0) := rfl
theorem f92_194 : gFetch 92 194 = some (.aload_n 0, 1, 0, 0) := rfl
theorem f92_195 : gFetch 92 195 = some (.getfield 35, 3, 11, 6) := rfl
theorem f92_198 : gFetch 92 198 = some (.iload_n 3, 1, 0, 0) := rfl
theorem f92_199 : gFetch 92 199 = some (.invokevirtual 135, 3, 167, 2) := rfl
theorem f92_202 : gFetch 92 202 = some (.checkcast 95, 3, 2, 0) := rfl
theorem f92_205 : gFetch 92 205 = some (.astore 4, 2, 0, 0) := rfl
theorem f92_207 : gFetch 92 207 = some (.aload_n 2, 1, 0, 0) := rfl
theorem f92_208 : gFetch 92 208 = some (.iload_n 3, 1, 0, 0) := rfl
theorem f92_209 : gFetch 92 209 = some (.baload, 1, 0, 0) := rfl
theorem f92_210 : gFetch 92 210 = some (.ifCond .eq 16, 3, 226, 0) := rfl
theorem f92_213 : gFetch 92 213 = some (.aload_n 1, 1, 0, 0) := rfl
theorem f92_214 : gFetch 92 214 = some (.getfield 436, 3, 7, 3) := rfl
theorem f92_217 : gFetch 92 217 = some (.aload 4, 2, 0, 0) := rfl
theorem f92_219 : gFetch 92 219 = some (.invokevirtual 59, 3, 162, 2) := rfl
theorem f92_222 : gFetch 92 222 = some (.pop, 1, 0, 0) := rfl
theorem f92_223 : gFetch 92 223 = some (.goto 22, 3, 245, 0) := rfl
theorem f92_226 : gFetch 92 226 = some (.aload 4, 2, 0, 0) := rfl
theorem f92_228 : gFetch 92 228 = some (.getfield 376, 3, 2, 0) := rfl
theorem f92_231 : gFetch 92 231 = some (.iconst 3, 1, 0, 0) := rfl
theorem f92_232 : gFetch 92 232 = some (.if_icmp .eq 13, 3, 245, 0) := rfl
theorem f92_235 : gFetch 92 235 = some (.aload_n 0, 1, 0, 0) := rfl
theorem f92_236 : gFetch 92 236 = some (.dup, 1, 0, 0) := rfl
theorem f92_237 : gFetch 92 237 = some (.getfield 439, 3, 11, 17) := rfl
theorem f92_240 : gFetch 92 240 = some (.iconst 1, 1, 0, 0) := rfl
theorem f92_241 : gFetch 92 241 = some (.iadd, 1, 0, 0) := rfl
theorem f92_242 : gFetch 92 242 = some (.putfield 439, 3, 11, 17) := rfl
theorem f92_245 : gFetch 92 245 = some (.iinc 3 1, 3, 0, 0) := rfl
theorem f92_248 : gFetch 92 248 = some (.goto (-71), 3, 177, 0) := rfl
theorem f92_251 : gFetch 92 251 = some (.return_, 1, 0, 0) := rfl
theorem f93_0 : gFetch 93 0 = some (.aload_n 0, 1, 0, 0) := rfl
theorem f93_1 : gFetch 93 1 = some (.getfield 19, 3, 11, 2) := rfl
theorem f93_4 : gFetch 93 4 = some (.invokevirtual 45, 3, 173, 1) := rfl
theorem f93_7 : gFetch 93 7 = some (.bipush 6, 2, 0, 0) := rfl
theorem f93_9 : gFetch 93 9 = some (.if_icmp .lt 13, 3, 22, 0) := rfl
theorem f93_12 : gFetch 93 12 = some (.new 49, 3, 1002, 2) := rfl
theorem f93_15 : gFetch 93 15 = some (.dup, 1, 0, 0) := rfl
theorem f93_16 : gFetch 93 16 = some (.ldc 180, 2, 999, 0) := rfl
theorem f93_18 : gFetch 93 18 = some (.invokespecial 53, 3, 999, 0) := rfl
theorem f93_21 : gFetch 93 21 = some (.athrow, 1, 0, 0) := rfl
theorem f93_22 : gFetch 93 22 = some (.new 182, 3, 9, 0) := rfl
theorem f93_25 : gFetch 93 25 = some (.dup, 1, 0, 0) := rfl
theorem f93_26 : gFetch 93 26 = some (.aload_n 0, 1, 0, 0) := rfl
theorem f93_27 : gFetch 93 27 = some (.getfield 184, 3, 11, 8) := rfl
theorem f93_30 : gFetch 93 30 = some (.aload_n 0, 1, 0, 0) := rfl
theorem f93_31 : gFetch 93 31 = some (.getfield 16, 3, 11, 1) := rfl
theorem f93_34 : gFetch 93 34 = some (.invokevirtual 45, 3, 173, 1) := rfl
theorem f93_37 : gFetch 93 37 = some (.invokespecial 187, 3, 149, 3) := rfl
theorem f93_40 : gFetch 93 40 = some (.astore_n 1, 1, 0, 0) := rfl
theorem f93_41 : gFetch 93 41 = some (.aload_n 0, 1, 0, 0) := rfl
theorem f93_42 : gFetch 93 42 = some (.dup, 1, 0, 0) := rfl
theorem f93_43 : gFetch 93 43 = some (.getfield 184, 3, 11, 8) := rfl
theorem f93_46 : gFetch 93 46 = some (.iconst 1, 1, 0, 0) := rfl
theorem f93_47 : gFetch 93 47 = some (.iadd, 1, 0, 0) := rfl
theorem f93_48 : gFetch 93 48 = some (.putfield 184, 3, 11, 8) := rfl
theorem f93_51 : gFetch 93 51 = some (.aload_n 0, 1, 0, 0) := rfl
theorem f93_52 : gFetch 93 52 = some (.getfield 19, 3, 11, 2) := rfl
theorem f93_55 : gFetch 93 55 = some (.aload_n 1, 1, 0, 0) := rfl
theorem f93_56 : gFetch 93 56 = some (.invokevirtual 59, 3, 162, 2) := rfl
theorem f93_59 : gFetch 93 59 = some (.pop, 1, 0, 0) := rfl
theorem f93_60 : gFetch 93 60 = some (.aload_n 1, 1, 0, 0) := rfl
theorem f93_61 : gFetch 93 61 = some (.getfield 189, 3, 9, 0) := rfl
theorem f93_64 : gFetch 93 64 = some (.ireturn, 1, 0, 0) := rfl
theorem f94_0 : gFetch 94 0 = some (.aload_n 0, 1, 0, 0) := rfl
theorem f94_1 : gFetch 94 1 = some (.getfield 156, 3, 11, 7) := rfl
theorem f94_4 : gFetch 94 4 = some (.astore_n 1, 1, 0, 0) := rfl
theorem f94_5 : gFetch 94 5 = some (.aload_n 1, 1, 0, 0) := rfl
theorem f94_6 : gFetch 94 6 = some (.ifnonnull 14, 3, 20, 0) := rfl
theorem f94_9 : gFetch 94 9 = some (.new 49, 3, 1002, 3) := rfl
theorem f94_12 : gFetch 94 12 = some (.dup, 1, 0, 0) := rfl
theorem f94_13 : gFetch 94 13 = some (.ldc_w 364, 3, 999, 0) := rfl
theorem f94_16 : gFetch 94 16 = some (.invokespecial 53, 3, 999, 0) := rfl
theorem f94_19 : gFetch 94 19 = some (.athrow, 1, 0, 0) := rfl
theorem f94_20 : gFetch 94 20 = some (.aload_n 0, 1, 0, 0) := rfl
theorem f94_21 : gFetch 94 21 = some (.aconst_null, 1, 0, 0) := rfl
theorem f94_22 : gFetch 94 22 = some (.putfield 156, 3, 11, 7) := rfl
theorem f94_25 : gFetch 94 25 = some (.aload_n 1, 1, 0, 0) := rfl
theorem f94_26 : gFetch 94 26 = some (.getfield 370, 3, 7, 6) := rfl
theorem f94_29 : gFetch 94 29 = some (.ireturn, 1, 0, 0) := rfl
theorem f95_0 : gFetch 95 0 = some (.iconst 0, 1, 0, 0) := rfl
theorem f95_1 : gFetch 95 1 = some (.istore_n 1, 1, 0, 0) := rfl
theorem f95_2 : gFetch 95 2 = some (.iconst 0, 1, 0, 0) := rfl
theorem f95_3 : gFetch 95 3 = some (.istore_n 2, 1, 0, 0) := rfl
theorem f95_4 : gFetch 95 4 = some (.iload_n 2, 1, 0, 0) := rfl
theorem f95_5 : gFetch 95 5 = some (.aload_n 0, 1, 0, 0) := rfl
theorem f95_6 : gFetch 95 6 = some (.getfield 16, 3, 11, 1) := rfl
theorem f95_9 : gFetch 95 9 = some (.invokevirtual 45, 3, 173, 1) := rfl
theorem f95_12 : gFetch 95 12 = some (.if_icmp .ge 37, 3, 49, 0) := rfl
theorem f95_15 : gFetch 95 15 = some (.aload_n 0, 1, 0, 0) := rfl
theorem f95_16 : gFetch 95 16 = some (.getfield 16, 3, 11, 1) := rfl
theorem f95_19 : gFetch 95 19 = some (.iload_n 2, 1, 0, 0) := rfl
theorem f95_20 : gFetch 95 20 = some (.invokevirtual 135, 3, 167, 2) := rfl
theorem f95_23 : gFetch 95 23 = some (.checkcast 93, 3, 10, 0) := rfl
theorem f95_26 : gFetch 95 26 = some (.astore_n 3, 1, 0, 0) := rfl
theorem f95_27 : gFetch 95 27 = some (.aload_n 3, 1, 0, 0) := rfl
theorem f95_28 : gFetch 95 28 = some (.getfield 373, 3, 10, 3) := rfl
theorem f95_31 : gFetch 95 31 = some (.iconst 1, 1, 0, 0) := rfl
theorem f95_32 : gFetch 95 32 = some (.if_icmp .ne 11, 3, 43, 0) := rfl
theorem f95_35 : gFetch 95 35 = some (.aload_n 3, 1, 0, 0) := rfl
theorem f95_36 : gFetch 95 36 = some (.iconst 2, 1, 0, 0) := rfl
theorem f95_37 : gFetch 95 37 = some (.putfield 373, 3, 10, 3) := rfl
theorem f95_40 : gFetch 95 40 = some (.iinc 1 1, 3, 0, 0) := rfl
theorem f95_43 : gFetch 95 43 = some (.iinc 2 1, 3, 0, 0) := rfl
theorem f95_46 : gFetch 95 46 = some (.goto (-42), 3, 4, 0) := rfl
theorem f95_49 : gFetch 95 49 = some (.iload_n 1, 1, 0, 0) := rfl
theorem f95_50 : gFetch 95 50 = some (.ireturn, 1, 0, 0) := rfl
theorem f96_0 : gFetch 96 0 = some (.aload_n 0, 1, 0, 0) := rfl
theorem f96_1 : gFetch 96 1 = some (.iload_n 1, 1, 0, 0) := rfl
theorem f96_2 : gFetch 96 2 = some (.invokevirtual 214, 3, 35, 2) := rfl
theorem f96_5 : gFetch 96 5 = some (.astore_n 2, 1, 0, 0) := rfl
theorem f96_6 : gFetch 96 6 = some (.aload_n 2, 1, 0, 0) := rfl
theorem f96_7 : gFetch 96 7 = some (.getfield 218, 3, 3, 3) := rfl
theorem f96_10 : gFetch 96 10 = some (.invokestatic 225, 3, 60, 1) := rfl
theorem f96_13 : gFetch 96 13 = some (.ifCond .ne 13, 3, 26, 0) := rfl
theorem f96_16 : gFetch 96 16 = some (.new 229, 3, 1003, 2) := rfl
theorem f96_19 : gFetch 96 19 = some (.dup, 1, 0, 0) := rfl
theorem f96_20 : gFetch 96 20 = some (.ldc 231, 2, 999, 0) := rfl
theorem f96_22 : gFetch 96 22 = some (.invokespecial 233, 3, 999, 0) := rfl
theorem f96_25 : gFetch 96 25 = some (.athrow, 1, 0, 0) := rfl
theorem f96_26 : gFetch 96 26 = some (.aload_n 0, 1, 0, 0) := rfl
theorem f96_27 : gFetch 96 27 = some (.aload_n 2, 1, 0, 0) := rfl
theorem f96_28 : gFetch 96 28 = some (.getfield 234, 3, 3, 1) := rfl
theorem f96_31 : gFetch 96 31 = some (.aload_n 2, 1, 0, 0) := rfl
theorem f96_32 : gFetch 96 32 = some (.getfield 218, 3, 3, 3) := rfl
theorem f96_35 : gFetch 96 35 = some (.aload_n 2, 1, 0, 0) := rfl
theorem f96_36 : gFetch 96 36 = some (.getfield 238, 3, 3, 2) := rfl
theorem f96_39 : gFetch 96 39 = some (.invokevirtual 176, 3, 49, 4) := rfl
theorem f96_42 : gFetch 96 42 = some (.aload_n 0, 1, 0, 0) := rfl
theorem f96_43 : gFetch 96 43 = some (.invokevirtual 173, 3, 54, 1) := rfl
theorem f96_46 : gFetch 96 46 = some (.ireturn, 1, 0, 0) := rfl
theorem f97_0 : gFetch 97 0 = some (.aload_n 0, 1, 0, 0) := rfl
theorem f97_1 : gFetch 97 1 = some (.getfield 121, 3, 11, 12) := rfl
theorem f97_4 : gFetch 97 4 = some (.ireturn, 1, 0, 0) := rfl
theorem f98_0 : gFetch 98 0 = some (.iload_n 1, 1, 0, 0) := rfl
theorem f98_1 : gFetch 98 1 = some (.iconst 1, 1, 0, 0) := rfl
theorem f98_2 : gFetch 98 2 = some (.if_icmp .lt 9, 3, 11, 0) := rfl
theorem f98_5 : gFetch 98 5 = some (.iload_n 1, 1, 0, 0) := rfl
theorem f98_6 : gFetch 98 6 = some (.bipush 50, 2, 0, 0) := rfl
theorem f98_8 : gFetch 98 8 = some (.if_icmp .le 14, 3, 22, 0) := rfl
theorem f98_11 : gFetch 98 11 = some (.new 38, 3, 1001, 3) := rfl
theorem f98_14 : gFetch 98 14 = some (.dup, 1, 0, 0) := rfl
theorem f98_15 : gFetch 98 15 = some (.ldc_w 362, 3, 999, 0) := rfl
theorem f98_18 : gFetch 98 18 = some (.invokespecial 42, 3, 999, 0) := rfl
theorem f98_21 : gFetch 98 21 = some (.athrow, 1, 0, 0) := rfl
theorem f98_22 : gFetch 98 22 = some (.aload_n 0, 1, 0, 0) := rfl
theorem f98_23 : gFetch 98 23 = some (.getfield 156, 3, 11, 7) := rfl
theorem f98_26 : gFetch 98 26 = some (.ifnonnull 14, 3, 40, 0) := rfl
theorem f98_29 : gFetch 98 29 = some (.new 49, 3, 1002, 3) := rfl
theorem f98_32 : gFetch 98 32 = some (.dup, 1, 0, 0) := rfl
theorem f98_33 : gFetch 98 33 = some (.ldc_w 364, 3, 999, 0) := rfl
theorem f98_36 : gFetch 98 36 = some (.invokespecial 53, 3, 999, 0) := rfl
theorem f98_39 : gFetch 98 39 = some (.athrow, 1, 0, 0) := rfl
theorem f98_40 : gFetch 98 40 = some (.iconst 0, 1, 0, 0) := rfl
theorem f98_41 : gFetch 98 41 = some (.istore_n 2, 1, 0, 0) := rfl
theorem f98_42 : gFetch 98 42 = some (.aload_n 0, 1, 0, 0) := rfl
theorem f98_43 : gFetch 98 43 = some (.getfield 156, 3, 11, 7) := rfl
theorem f98_46 : gFetch 98 46 = some (.astore_n 3, 1, 0, 0) := rfl
theorem f98_47 : gFetch 98 47 = some (.iload_n 2, 1, 0, 0) := rfl
theorem f98_48 : gFetch 98 48 = some (.iload_n 1, 1, 0, 0) := rfl
theorem f98_49 : gFetch 98 49 = some (.if_icmp .ge 23, 3, 72, 0) := rfl
theorem f98_52 : gFetch 98 52 = some (.aload_n 3, 1, 0, 0) := rfl
theorem f98_53 : gFetch 98 53 = some (.ifnull 19, 3, 72, 0) := rfl
theorem f98_56 : gFetch 98 56 = some (.aload_n 0, 1, 0, 0) := rfl
theorem f98_57 : gFetch 98 57 = some (.aload_n 3, 1, 0, 0) := rfl
theorem f98_58 : gFetch 98 58 = some (.invokevirtual 366, 3, 41, 2) := rfl
theorem f98_61 : gFetch 98 61 = some (.iinc 2 1, 3, 0, 0) := rfl
theorem f98_64 : gFetch 98 64 = some (.aload_n 0, 1, 0, 0) := rfl
theorem f98_65 : gFetch 98 65 = some (.getfield 156, 3, 11, 7) := rfl
theorem f98_68 : gFetch 98 68 = some (.astore_n 3, 1, 0, 0) := rfl
theorem f98_69 : gFetch 98 69 = some (.goto (-22), 3, 47, 0) := rfl
theorem f98_72 : gFetch 98 72 = some (.iload_n 2, 1, 0, 0) := rfl
theorem f98_73 : gFetch 98 73 = some (.ireturn, 1, 0, 0) := rfl
theorem f99_0 : gFetch 99 0 = some (.aload_n 0, 1, 0, 0) := rfl
theorem f99_1 : gFetch 99 1 = some (.iload_n 1, 1, 0, 0) := rfl
theorem f99_2 : gFetch 99 2 = some (.invokevirtual 71, 3, 47, 2) := rfl
theorem f99_5 : gFetch 99 5 = some (.astore 6, 2, 0, 0) := rfl
theorem f99_7 : gFetch 99 7 = some (.iload_n 3, 1, 0, 0) := rfl
theorem f99_8 : gFetch 99 8 = some (.iload 4, 2, 0, 0) := rfl
theorem f99_10 : gFetch 99 10 = some (.invokestatic 75, 3, 29, 2) := rfl
theorem f99_13 : gFetch 99 13 = some (.aload_n 0, 1, 0, 0) := rfl
theorem f99_14 : gFetch 99 14 = some (.aload 6, 2, 0, 0) := rfl
theorem f99_16 : gFetch 99 16 = some (.invokevirtual 81, 3, 21, 2) := rfl
theorem f99_19 : gFetch 99 19 = some (.aload_n 0, 1, 0, 0) := rfl
theorem f99_20 : gFetch 99 20 = some (.getfield 16, 3, 11, 1) := rfl
theorem f99_23 : gFetch 99 23 = some (.invokevirtual 45, 3, 173, 1) := rfl
theorem f99_26 : gFetch 99 26 = some (.iconst 1, 1, 0, 0) := rfl
theorem f99_27 : gFetch 99 27 = some (.iadd, 1, 0, 0) := rfl
theorem f99_28 : gFetch 99 28 = some (.istore 7, 2, 0, 0) := rfl
theorem f99_30 : gFetch 99 30 = some (.aload_n 0, 1, 0, 0) := rfl
theorem f99_31 : gFetch 99 31 = some (.getfield 16, 3, 11, 1) := rfl
theorem f99_34 : gFetch 99 34 = some (.new 93, 3, 10, 0) := rfl
theorem f99_37 : gFetch 99 37 = some (.dup, 1, 0, 0) := rfl
theorem f99_38 : gFetch 99 38 = some (.aload 6, 2, 0, 0) := rfl
theorem f99_40 : gFetch 99 40 = some (.getfield 63, 3, 4, 0) := rfl
theorem f99_43 : gFetch 99 43 = some (.new 95, 3, 2, 0) := rfl
theorem f99_46 : gFetch 99 46 = some (.dup, 1, 0, 0) := rfl
theorem f99_47 : gFetch 99 47 = some (.iload_n 2, 1, 0, 0) := rfl
theorem f99_48 : gFetch 99 48 = some (.iload 7, 2, 0, 0) := rfl
theorem f99_50 : gFetch 99 50 = some (.iload_n 3, 1, 0, 0) := rfl
theorem f99_51 : gFetch 99 51 = some (.iload 4, 2, 0, 0) := rfl
theorem f99_53 : gFetch 99 53 = some (.iload 5, 2, 0, 0) := rfl
theorem f99_55 : gFetch 99 55 = some (.invokespecial 97, 3, 101, 6) := rfl
theorem f99_58 : gFetch 99 58 = some (.iconst 0, 1, 0, 0) := rfl
theorem f99_59 : gFetch 99 59 = some (.iconst 1, 1, 0, 0) := rfl
theorem f99_60 : gFetch 99 60 = some (.invokespecial 100, 3, 150, 5) := rfl
theorem f99_63 : gFetch 99 63 = some (.invokevirtual 59, 3, 162, 2) := rfl
theorem f99_66 : gFetch 99 66 = some (.pop, 1, 0, 0) := rfl
theorem f99_67 : gFetch 99 67 = some (.aload_n 0, 1, 0, 0) := rfl
theorem f99_68 : gFetch 99 68 = some (.aload 6, 2, 0, 0) := rfl
theorem f99_70 : gFetch 99 70 = some (.invokevirtual 124, 3, 32, 2) := rfl
theorem f99_73 : gFetch 99 73 = some (.bipush 8, 2, 0, 0) := rfl
theorem f99_75 : gFetch 99 75 = some (.if_icmp .lt 10, 3, 85, 0) := rfl
theorem f99_78 : gFetch 99 78 = some (.aload_n 0, 1, 0, 0) := rfl
theorem f99_79 : gFetch 99 79 = some (.aload 6, 2, 0, 0) := rfl
theorem f99_81 : gFetch 99 81 = some (.invokevirtual 89, 3, 52, 2) := rfl
theorem f99_84 : gFetch 99 84 = some (.pop, 1, 0, 0) := rfl
theorem f99_85 : gFetch 99 85 = some (.iload 7, 2, 0, 0) := rfl
theorem f99_87 : gFetch 99 87 = some (.ireturn, 1, 0, 0) := rfl
