theorem f156_0 : gFetch 156 0 = some (.iload_n 0, 1, 0, 0) := rfl
theorem f156_1 : gFetch 156 1 = some (.iload_n 1, 1, 0, 0) := rfl
theorem f156_2 : gFetch 156 2 = some (.if_icmp .lt 7, 3, 9, 0) := rfl
theorem f156_5 : gFetch 156 5 = some (.iload_n 0, 1, 0, 0) := rfl
theorem f156_6 : gFetch 156 6 = some (.goto 4, 3, 10, 0) := rfl
theorem f156_9 : gFetch 156 9 = some (.iload_n 1, 1, 0, 0) := rfl
theorem f156_10 : gFetch 156 10 = some (.ireturn, 1, 0, 0) := rfl
theorem f157_0 : gFetch 157 0 = some (.iload_n 0, 1, 0, 0) := rfl
theorem f157_1 : gFetch 157 1 = some (.iload_n 1, 1, 0, 0) := rfl
theorem f157_2 : gFetch 157 2 = some (.if_icmp .gt 7, 3, 9, 0) := rfl
theorem f157_5 : gFetch 157 5 = some (.iload_n 0, 1, 0, 0) := rfl
theorem f157_6 : gFetch 157 6 = some (.goto 4, 3, 10, 0) := rfl
theorem f157_9 : gFetch 157 9 = some (.iload_n 1, 1, 0, 0) := rfl
theorem f157_10 : gFetch 157 10 = some (.ireturn, 1, 0, 0) := rfl
theorem f158_0 : gFetch 158 0 = some (.aload_n 0, 1, 0, 0) := rfl
theorem f158_1 : gFetch 158 1 = some (.invokespecial 1, 3, 900, 1) := rfl
theorem f158_4 : gFetch 158 4 = some (.return_, 1, 0, 0) := rfl
theorem f159_0 : gFetch 159 0 = some (.aload_n 0, 1, 0, 0) := rfl
theorem f159_1 : gFetch 159 1 = some (.invokespecial 1, 3, 158, 1) := rfl
theorem f159_4 : gFetch 159 4 = some (.aload_n 0, 1, 0, 0) := rfl
theorem f159_5 : gFetch 159 5 = some (.iconst 0, 1, 0, 0) := rfl
theorem f159_6 : gFetch 159 6 = some (.putfield 7, 3, 0, 0) := rfl
theorem f159_9 : gFetch 159 9 = some (.return_, 1, 0, 0) := rfl
theorem f160_0 : gFetch 160 0 = some (.aload_n 0, 1, 0, 0) := rfl
theorem f160_1 : gFetch 160 1 = some (.invokespecial 1, 3, 159, 1) := rfl
theorem f160_4 : gFetch 160 4 = some (.aload_n 0, 1, 0, 0) := rfl
theorem f160_5 : gFetch 160 5 = some (.getstatic 39, 3, 2, 0) := rfl
theorem f160_8 : gFetch 160 8 = some (.putfield 9, 3, 0, 1) := rfl
theorem f160_11 : gFetch 160 11 = some (.return_, 1, 0, 0) := rfl
theorem f161_0 : gFetch 161 0 = some (.aload_n 0, 1, 0, 0) := rfl
theorem f161_1 : gFetch 161 1 = some (.iload_n 1, 1, 0, 0) := rfl
theorem f161_2 : gFetch 161 2 = some (.invokevirtual 135, 3, 171, 2) := rfl
theorem f161_5 : gFetch 161 5 = some (.aload_n 0, 1, 0, 0) := rfl
theorem f161_6 : gFetch 161 6 = some (.dup, 1, 0, 0) := rfl
theorem f161_7 : gFetch 161 7 = some (.getfield 63, 3, 0, 0) := rfl
theorem f161_10 : gFetch 161 10 = some (.iconst 1, 1, 0, 0) := rfl
theorem f161_11 : gFetch 161 11 = some (.iadd, 1, 0, 0) := rfl
theorem f161_12 : gFetch 161 12 = some (.putfield 63, 3, 0, 0) := rfl
theorem f161_15 : gFetch 161 15 = some (.aload_n 0, 1, 0, 0) := rfl
theorem f161_16 : gFetch 161 16 = some (.getfield 48, 3, 0, 2) := rfl
theorem f161_19 : gFetch 161 19 = some (.dup, 1, 0, 0) := rfl
theorem f161_20 : gFetch 161 20 = some (.istore_n 3, 1, 0, 0) := rfl
theorem f161_21 : gFetch 161 21 = some (.aload_n 0, 1, 0, 0) := rfl
theorem f161_22 : gFetch 161 22 = some (.getfield 9, 3, 0, 1) := rfl
theorem f161_25 : gFetch 161 25 = some (.dup, 1, 0, 0) := rfl
theorem f161_26 : gFetch 161 26 = some (.astore 4, 2, 0, 0) := rfl
theorem f161_28 : gFetch 161 28 = some (.arraylength, 1, 0, 0) := rfl
theorem f161_29 : gFetch 161 29 = some (.if_icmp .ne 9, 3, 38, 0) := rfl
theorem f161_32 : gFetch 161 32 = some (.aload_n 0, 1, 0, 0) := rfl
theorem f161_33 : gFetch 161 33 = some (.invokevirtual 129, 3, 168, 1) := rfl
theorem f161_36 : gFetch 161 36 = some (.astore 4, 2, 0, 0) := rfl
theorem f161_38 : gFetch 161 38 = some (.aload 4, 2, 0, 0) := rfl
theorem f161_40 : gFetch 161 40 = some (.iload_n 1, 1, 0, 0) := rfl
theorem f161_41 : gFetch 161 41 = some (.aload 4, 2, 0, 0) := rfl
theorem f161_43 : gFetch 161 43 = some (.iload_n 1, 1, 0, 0) := rfl
theorem f161_44 : gFetch 161 44 = some (.iconst 1, 1, 0, 0) := rfl
theorem f161_45 : gFetch 161 45 = some (.iadd, 1, 0, 0) := rfl
theorem f161_46 : gFetch 161 46 = some (.iload_n 3, 1, 0, 0) := rfl
theorem f161_47 : gFetch 161 47 = some (.iload_n 1, 1, 0, 0) := rfl
theorem f161_48 : gFetch 161 48 = some (.isub, 1, 0, 0) := rfl
theorem f161_49 : gFetch 161 49 = some (.invokestatic 112, 3, 901, 5) := rfl
theorem f161_52 : gFetch 161 52 = some (.aload 4, 2, 0, 0) := rfl
theorem f161_54 : gFetch 161 54 = some (.iload_n 1, 1, 0, 0) := rfl
theorem f161_55 : gFetch 161 55 = some (.aload_n 2, 1, 0, 0) := rfl
theorem f161_56 : gFetch 161 56 = some (.aastore, 1, 0, 0) := rfl
theorem f161_57 : gFetch 161 57 = some (.aload_n 0, 1, 0, 0) := rfl
theorem f161_58 : gFetch 161 58 = some (.iload_n 3, 1, 0, 0) := rfl
theorem f161_59 : gFetch 161 59 = some (.iconst 1, 1, 0, 0) := rfl
theorem f161_60 : gFetch 161 60 = some (.iadd, 1, 0, 0) := rfl
theorem f161_61 : gFetch 161 61 = some (.putfield 48, 3, 0, 2) := rfl
theorem f161_64 : gFetch 161 64 = some (.return_, 1, 0, 0) := rfl
theorem f162_0 : gFetch 162 0 = some (.aload_n 0, 1, 0, 0) := rfl
theorem f162_1 : gFetch 162 1 = some (.dup, 1, 0, 0) := rfl
theorem f162_2 : gFetch 162 2 = some (.getfield 63, 3, 0, 0) := rfl
theorem f162_5 : gFetch 162 5 = some (.iconst 1, 1, 0, 0) := rfl
theorem f162_6 : gFetch 162 6 = some (.iadd, 1, 0, 0) := rfl
theorem f162_7 : gFetch 162 7 = some (.putfield 63, 3, 0, 0) := rfl
theorem f162_10 : gFetch 162 10 = some (.aload_n 0, 1, 0, 0) := rfl
theorem f162_11 : gFetch 162 11 = some (.aload_n 1, 1, 0, 0) := rfl
theorem f162_12 : gFetch 162 12 = some (.aload_n 0, 1, 0, 0) := rfl
theorem f162_13 : gFetch 162 13 = some (.getfield 9, 3, 0, 1) := rfl
theorem f162_16 : gFetch 162 16 = some (.aload_n 0, 1, 0, 0) := rfl
theorem f162_17 : gFetch 162 17 = some (.getfield 48, 3, 0, 2) := rfl
theorem f162_20 : gFetch 162 20 = some (.invokevirtual 131, 3, 163, 4) := rfl
theorem f162_23 : gFetch 162 23 = some (.iconst 1, 1, 0, 0) := rfl
theorem f162_24 : gFetch 162 24 = some (.ireturn, 1, 0, 0) := rfl
theorem f163_0 : gFetch 163 0 = some (.iload_n 3, 1, 0, 0) := rfl
theorem f163_1 : gFetch 163 1 = some (.aload_n 2, 1, 0, 0) := rfl
theorem f163_2 : gFetch 163 2 = some (.arraylength, 1, 0, 0) := rfl
theorem f163_3 : gFetch 163 3 = some (.if_icmp .ne 8, 3, 11, 0) := rfl
theorem f163_6 : gFetch 163 6 = some (.aload_n 0, 1, 0, 0) := rfl
theorem f163_7 : gFetch 163 7 = some (.invokevirtual 129, 3, 168, 1) := rfl
theorem f163_10 : gFetch 163 10 = some (.astore_n 2, 1, 0, 0) := rfl
theorem f163_11 : gFetch 163 11 = some (.aload_n 2, 1, 0, 0) := rfl
theorem f163_12 : gFetch 163 12 = some (.iload_n 3, 1, 0, 0) := rfl
theorem f163_13 : gFetch 163 13 = some (.aload_n 1, 1, 0, 0) := rfl
theorem f163_14 : gFetch 163 14 = some (.aastore, 1, 0, 0) := rfl
theorem f163_15 : gFetch 163 15 = some (.aload_n 0, 1, 0, 0) := rfl
theorem f163_16 : gFetch 163 16 = some (.iload_n 3, 1, 0, 0) := rfl
theorem f163_17 : gFetch 163 17 = some (.iconst 1, 1, 0, 0) := rfl
theorem f163_18 : gFetch 163 18 = some (.iadd, 1, 0, 0) := rfl
theorem f163_19 : gFetch 163 19 = some (.putfield 48, 3, 0, 2) := rfl
theorem f163_22 : gFetch 163 22 = some (.return_, 1, 0, 0) := rfl
theorem f164_0 : gFetch 164 0 = some (.aload_n 0, 1, 0, 0) := rfl
theorem f164_1 : gFetch 164 1 = some (.dup, 1, 0, 0) := rfl
theorem f164_2 : gFetch 164 2 = some (.getfield 63, 3, 0, 0) := rfl
theorem f164_5 : gFetch 164 5 = some (.iconst 1, 1, 0, 0) := rfl
theorem f164_6 : gFetch 164 6 = some (.iadd, 1, 0, 0) := rfl
theorem f164_7 : gFetch 164 7 = some (.putfield 63, 3, 0, 0) := rfl
theorem f164_10 : gFetch 164 10 = some (.aload_n 0, 1, 0, 0) := rfl
theorem f164_11 : gFetch 164 11 = some (.getfield 9, 3, 0, 1) := rfl
theorem f164_14 : gFetch 164 14 = some (.astore_n 1, 1, 0, 0) := rfl
theorem f164_15 : gFetch 164 15 = some (.aload_n 0, 1, 0, 0) := rfl
theorem f164_16 : gFetch 164 16 = some (.getfield 48, 3, 0, 2) := rfl
theorem f164_19 : gFetch 164 19 = some (.istore_n 2, 1, 0, 0) := rfl
theorem f164_20 : gFetch 164 20 = some (.aload_n 0, 1, 0, 0) := rfl
theorem f164_21 : gFetch 164 21 = some (.iconst 0, 1, 0, 0) := rfl
theorem f164_22 : gFetch 164 22 = some (.dup_x1, 1, 0, 0) := rfl
theorem f164_23 : gFetch 164 23 = some (.putfield 48, 3, 0, 2) := rfl
theorem f164_26 : gFetch 164 26 = some (.istore_n 3, 1, 0, 0) := rfl
theorem f164_27 : gFetch 164 27 = some (.iload_n 3, 1, 0, 0) := rfl
theorem f164_28 : gFetch 164 28 = some (.iload_n 2, 1, 0, 0) := rfl
theorem f164_29 : gFetch 164 29 = some (.if_icmp .ge 13, 3, 42, 0) := rfl
theorem f164_32 : gFetch 164 32 = some (.aload_n 1, 1, 0, 0) := rfl
theorem f164_33 : gFetch 164 33 = some (.iload_n 3, 1, 0, 0) := rfl
theorem f164_34 : gFetch 164 34 = some (.aconst_null, 1, 0, 0) := rfl
theorem f164_35 : gFetch 164 35 = some (.aastore, 1, 0, 0) := rfl
theorem f164_36 : gFetch 164 36 = some (.iinc 3 1, 3, 0, 0) := rfl
theorem f164_39 : gFetch 164 39 = some (.goto (-12), 3, 27, 0) := rfl
theorem f164_42 : gFetch 164 42 = some (.return_, 1, 0, 0) := rfl
theorem f165_0 : gFetch 165 0 = some (.aload_n 0, 1, 0, 0) := rfl
theorem f165_1 : gFetch 165 1 = some (.getfield 9, 3, 0, 1) := rfl
theorem f165_4 : gFetch 165 4 = some (.iload_n 1, 1, 0, 0) := rfl
theorem f165_5 : gFetch 165 5 = some (.aaload, 1, 0, 0) := rfl
theorem f165_6 : gFetch 165 6 = some (.areturn, 1, 0, 0) := rfl
theorem f166_0 : gFetch 166 0 = some (.aload_n 0, 1, 0, 0) := rfl
theorem f166_1 : gFetch 166 1 = some (.dup, 1, 0, 0) := rfl
theorem f166_2 : gFetch 166 2 = some (.getfield 63, 3, 0, 0) := rfl
theorem f166_5 : gFetch 166 5 = some (.iconst 1, 1, 0, 0) := rfl
theorem f166_6 : gFetch 166 6 = some (.iadd, 1, 0, 0) := rfl
theorem f166_7 : gFetch 166 7 = some (.putfield 63, 3, 0, 0) := rfl
theorem f166_10 : gFetch 166 10 = some (.aload_n 0, 1, 0, 0) := rfl
theorem f166_11 : gFetch 166 11 = some (.getfield 48, 3, 0, 2) := rfl
theorem f166_14 : gFetch 166 14 = some (.iconst 1, 1, 0, 0) := rfl
theorem f166_15 : gFetch 166 15 = some (.isub, 1, 0, 0) := rfl
theorem f166_16 : gFetch 166 16 = some (.dup, 1, 0, 0) := rfl
theorem f166_17 : gFetch 166 17 = some (.istore_n 3, 1, 0, 0) := rfl
theorem f166_18 : gFetch 166 18 = some (.iload_n 2, 1, 0, 0) := rfl
theorem f166_19 : gFetch 166 19 = some (.if_icmp .le 15, 3, 34, 0) := rfl
theorem f166_22 : gFetch 166 22 = some (.aload_n 1, 1, 0, 0) := rfl
theorem f166_23 : gFetch 166 23 = some (.iload_n 2, 1, 0, 0) := rfl
theorem f166_24 : gFetch 166 24 = some (.iconst 1, 1, 0, 0) := rfl
theorem f166_25 : gFetch 166 25 = some (.iadd, 1, 0, 0) := rfl
theorem f166_26 : gFetch 166 26 = some (.aload_n 1, 1, 0, 0) := rfl
theorem f166_27 : gFetch 166 27 = some (.iload_n 2, 1, 0, 0) := rfl
theorem f166_28 : gFetch 166 28 = some (.iload_n 3, 1, 0, 0) := rfl
theorem f166_29 : gFetch 166 29 = some (.iload_n 2, 1, 0, 0) := rfl
theorem f166_30 : gFetch 166 30 = some (.isub, 1, 0, 0) := rfl
theorem f166_31 : gFetch 166 31 = some (.invokestatic 112, 3, 901, 5) := rfl
theorem f166_34 : gFetch 166 34 = some (.aload_n 1, 1, 0, 0) := rfl
theorem f166_35 : gFetch 166 35 = some (.aload_n 0, 1, 0, 0) := rfl
theorem f166_36 : gFetch 166 36 = some (.iload_n 3, 1, 0, 0) := rfl
theorem f166_37 : gFetch 166 37 = some (.dup_x1, 1, 0, 0) := rfl
theorem f166_38 : gFetch 166 38 = some (.putfield 48, 3, 0, 2) := rfl
theorem f166_41 : gFetch 166 41 = some (.aconst_null, 1, 0, 0) := rfl
theorem f166_42 : gFetch 166 42 = some (.aastore, 1, 0, 0) := rfl
theorem f166_43 : gFetch 166 43 = some (.return_, 1, 0, 0) := rfl
theorem f167_0 : gFetch 167 0 = some (.iload_n 1, 1, 0, 0) := rfl
theorem f167_1 : gFetch 167 1 = some (.aload_n 0, 1, 0, 0) := rfl
theorem f167_2 : gFetch 167 2 = some (.getfield 48, 3, 0, 2) := rfl
theorem f167_5 : gFetch 167 5 = some (.invokestatic 118, 3, 176, 2) := rfl
theorem f167_8 : gFetch 167 8 = some (.pop, 1, 0, 0) := rfl
theorem f167_9 : gFetch 167 9 = some (.aload_n 0, 1, 0, 0) := rfl
theorem f167_10 : gFetch 167 10 = some (.iload_n 1, 1, 0, 0) := rfl
theorem f167_11 : gFetch 167 11 = some (.invokevirtual 123, 3, 165, 2) := rfl
theorem f167_14 : gFetch 167 14 = some (.areturn, 1, 0, 0) := rfl
theorem f168_0 : gFetch 168 0 = some (.aload_n 0, 1, 0, 0) := rfl
theorem f168_1 : gFetch 168 1 = some (.aload_n 0, 1, 0, 0) := rfl
theorem f168_2 : gFetch 168 2 = some (.getfield 48, 3, 0, 2) := rfl
theorem f168_5 : gFetch 168 5 = some (.iconst 1, 1, 0, 0) := rfl
theorem f168_6 : gFetch 168 6 = some (.iadd, 1, 0, 0) := rfl
theorem f168_7 : gFetch 168 7 = some (.invokevirtual 69, 3, 169, 2) := rfl
theorem f168_10 : gFetch 168 10 = some (.areturn, 1, 0, 0) := rfl
theorem f169_0 : gFetch 169 0 = some (.aload_n 0, 1, 0, 0) := rfl
theorem f169_1 : gFetch 169 1 = some (.getfield 9, 3, 0, 1) := rfl
theorem f169_4 : gFetch 169 4 = some (.arraylength, 1, 0, 0) := rfl
theorem f169_5 : gFetch 169 5 = some (.istore_n 2, 1, 0, 0) := rfl
theorem f169_6 : gFetch 169 6 = some (.iload_n 2, 1, 0, 0) := rfl
theorem f169_7 : gFetch 169 7 = some (.ifCond .gt 13, 3, 20, 0) := rfl
theorem f169_10 : gFetch 169 10 = some (.aload_n 0, 1, 0, 0) := rfl
theorem f169_11 : gFetch 169 11 = some (.getfield 9, 3, 0, 1) := rfl
theorem f169_14 : gFetch 169 14 = some (.getstatic 39, 3, 2, 0) := rfl
theorem f169_17 : gFetch 169 17 = some (.if_acmp .eq 28, 3, 45, 0) := rfl
theorem f169_20 : gFetch 169 20 = some (.iload_n 2, 1, 0, 0) := rfl
theorem f169_21 : gFetch 169 21 = some (.iload_n 1, 1, 0, 0) := rfl
theorem f169_22 : gFetch 169 22 = some (.iload_n 2, 1, 0, 0) := rfl
theorem f169_23 : gFetch 169 23 = some (.isub, 1, 0, 0) := rfl
theorem f169_24 : gFetch 169 24 = some (.iload_n 2, 1, 0, 0) := rfl
theorem f169_25 : gFetch 169 25 = some (.iconst 1, 1, 0, 0) := rfl
theorem f169_26 : gFetch 169 26 = some (.ishr, 1, 0, 0) := rfl
theorem f169_27 : gFetch 169 27 = some (.invokestatic 73, 3, 177, 3) := rfl
theorem f169_30 : gFetch 169 30 = some (.istore_n 3, 1, 0, 0) := rfl
theorem f169_31 : gFetch 169 31 = some (.aload_n 0, 1, 0, 0) := rfl
theorem f169_32 : gFetch 169 32 = some (.aload_n 0, 1, 0, 0) := rfl
theorem f169_33 : gFetch 169 33 = some (.getfield 9, 3, 0, 1) := rfl
theorem f169_36 : gFetch 169 36 = some (.iload_n 3, 1, 0, 0) := rfl
theorem f169_37 : gFetch 169 37 = some (.invokestatic 66, 3, 174, 2) := rfl
theorem f169_40 : gFetch 169 40 = some (.dup_x1, 1, 0, 0) := rfl
theorem f169_41 : gFetch 169 41 = some (.putfield 9, 3, 0, 1) := rfl
theorem f169_44 : gFetch 169 44 = some (.areturn, 1, 0, 0) := rfl
theorem f169_45 : gFetch 169 45 = some (.aload_n 0, 1, 0, 0) := rfl
theorem f169_46 : gFetch 169 46 = some (.bipush 10, 2, 0, 0) := rfl
theorem f169_48 : gFetch 169 48 = some (.iload_n 1, 1, 0, 0) := rfl
theorem f169_49 : gFetch 169 49 = some (.invokestatic 79, 3, 156, 2) := rfl
theorem f169_52 : gFetch 169 52 = some (.anewarray 7, 3, 0, 0) := rfl
theorem f169_55 : gFetch 169 55 = some (.dup_x1, 1, 0, 0) := rfl
theorem f169_56 : gFetch 169 56 = some (.putfield 9, 3, 0, 1) := rfl
theorem f169_59 : gFetch 169 59 = some (.areturn, 1, 0, 0) := rfl
theorem f170_0 : gFetch 170 0 = some (.aload_n 0, 1, 0, 0) := rfl
theorem f170_1 : gFetch 170 1 = some (.getfield 48, 3, 0, 2) := rfl
theorem f170_4 : gFetch 170 4 = some (.ifCond .ne 7, 3, 11, 0) := rfl
theorem f170_7 : gFetch 170 7 = some (.iconst 1, 1, 0, 0) := rfl
theorem f170_8 : gFetch 170 8 = some (.goto 4, 3, 12, 0) := rfl
theorem f170_11 : gFetch 170 11 = some (.iconst 0, 1, 0, 0) := rfl
theorem f170_12 : gFetch 170 12 = some (.ireturn, 1, 0, 0) := rfl
theorem f171_0 : gFetch 171 0 = some (.iload_n 1, 1, 0, 0) := rfl
theorem f171_1 : gFetch 171 1 = some (.aload_n 0, 1, 0, 0) := rfl
theorem f171_2 : gFetch 171 2 = some (.getfield 48, 3, 0, 2) := rfl
theorem f171_5 : gFetch 171 5 = some (.if_icmp .gt 7, 3, 12, 0) := rfl
theorem f171_8 : gFetch 171 8 = some (.iload_n 1, 1, 0, 0) := rfl
theorem f171_9 : gFetch 171 9 = some (.ifCond .ge 16, 3, 25, 0) := rfl
theorem f171_12 : gFetch 171 12 = some (.new 187, 3, 999, 0) := rfl
theorem f171_15 : gFetch 171 15 = some (.dup, 1, 0, 0) := rfl
theorem f171_16 : gFetch 171 16 = some (.aload_n 0, 1, 0, 0) := rfl
theorem f171_17 : gFetch 171 17 = some (.iload_n 1, 1, 0, 0) := rfl
theorem f171_18 : gFetch 171 18 = some (.invokevirtual 198, 3, 999, 0) := rfl
theorem f171_21 : gFetch 171 21 = some (.invokespecial 193, 3, 999, 0) := rfl
theorem f171_24 : gFetch 171 24 = some (.athrow, 1, 0, 0) := rfl
theorem f171_25 : gFetch 171 25 = some (.return_, 1, 0, 0) := rfl
theorem f172_0 : gFetch 172 0 = some (.iload_n 1, 1, 0, 0) := rfl
theorem f172_1 : gFetch 172 1 = some (.aload_n 0, 1, 0, 0) := rfl
theorem f172_2 : gFetch 172 2 = some (.getfield 48, 3, 0, 2) := rfl
theorem f172_5 : gFetch 172 5 = some (.invokestatic 118, 3, 176, 2) := rfl
theorem f172_8 : gFetch 172 8 = some (.pop, 1, 0, 0) := rfl
theorem f172_9 : gFetch 172 9 = some (.aload_n 0, 1, 0, 0) := rfl
theorem f172_10 : gFetch 172 10 = some (.getfield 9, 3, 0, 1) := rfl
theorem f172_13 : gFetch 172 13 = some (.astore_n 2, 1, 0, 0) := rfl
theorem f172_14 : gFetch 172 14 = some (.aload_n 2, 1, 0, 0) := rfl
theorem f172_15 : gFetch 172 15 = some (.iload_n 1, 1, 0, 0) := rfl
theorem f172_16 : gFetch 172 16 = some (.aaload, 1, 0, 0) := rfl
theorem f172_17 : gFetch 172 17 = some (.astore_n 3, 1, 0, 0) := rfl
theorem f172_18 : gFetch 172 18 = some (.aload_n 0, 1, 0, 0) := rfl
theorem f172_19 : gFetch 172 19 = some (.aload_n 2, 1, 0, 0) := rfl
theorem f172_20 : gFetch 172 20 = some (.iload_n 1, 1, 0, 0) := rfl
theorem f172_21 : gFetch 172 21 = some (.invokevirtual 144, 3, 166, 3) := rfl
theorem f172_24 : gFetch 172 24 = some (.aload_n 3, 1, 0, 0) := rfl
theorem f172_25 : gFetch 172 25 = some (.areturn, 1, 0, 0) := rfl
theorem f173_0 : gFetch 173 0 = some (.aload_n 0, 1, 0, 0) := rfl
theorem f173_1 : gFetch 173 1 = some (.getfield 48, 3, 0, 2) := rfl
theorem f173_4 : gFetch 173 4 = some (.ireturn, 1, 0, 0) := rfl
theorem f174_0 : gFetch 174 0 = some (.aload_n 0, 1, 0, 0) := rfl
theorem f174_1 : gFetch 174 1 = some (.iload_n 1, 1, 0, 0) := rfl
theorem f174_2 : gFetch 174 2 = some (.aload_n 0, 1, 0, 0) := rfl
theorem f174_3 : gFetch 174 3 = some (.invokevirtual 86, 3, 902, 1) := rfl
theorem f174_6 : gFetch 174 6 = some (.invokestatic 300, 3, 175, 3) := rfl
theorem f174_9 : gFetch 174 9 = some (.areturn, 1, 0, 0) := rfl
theorem f175_0 : gFetch 175 0 = some (.aload_n 2, 1, 0, 0) := rfl
theorem f175_1 : gFetch 175 1 = some (.ldc 110, 2, 2, 3) := rfl
theorem f175_3 : gFetch 175 3 = some (.if_acmp .ne 10, 3, 13, 0) := rfl
theorem f175_6 : gFetch 175 6 = some (.iload_n 1, 1, 0, 0) := rfl
theorem f175_7 : gFetch 175 7 = some (.anewarray 2, 3, 0, 0) := rfl
theorem f175_10 : gFetch 175 10 = some (.goto 14, 3, 24, 0) := rfl
theorem f175_13 : gFetch 175 13 = some (.aload_n 2, 1, 0, 0) := rfl
theorem f175_14 : gFetch 175 14 = some (.invokevirtual 90, 3, 999, 0) := rfl
theorem f175_17 : gFetch 175 17 = some (.iload_n 1, 1, 0, 0) := rfl
theorem f175_18 : gFetch 175 18 = some (.invokestatic 95, 3, 999, 0) := rfl
theorem f175_21 : gFetch 175 21 = some (.checkcast 110, 3, 1000, 0) := rfl
theorem f175_24 : gFetch 175 24 = some (.astore_n 3, 1, 0, 0) := rfl
theorem f175_25 : gFetch 175 25 = some (.aload_n 0, 1, 0, 0) := rfl
theorem f175_26 : gFetch 175 26 = some (.iconst 0, 1, 0, 0) := rfl
theorem f175_27 : gFetch 175 27 = some (.aload_n 3, 1, 0, 0) := rfl
theorem f175_28 : gFetch 175 28 = some (.iconst 0, 1, 0, 0) := rfl
theorem f175_29 : gFetch 175 29 = some (.aload_n 0, 1, 0, 0) := rfl
theorem f175_30 : gFetch 175 30 = some (.arraylength, 1, 0, 0) := rfl
theorem f175_31 : gFetch 175 31 = some (.iload_n 1, 1, 0, 0) := rfl
theorem f175_32 : gFetch 175 32 = some (.invokestatic 304, 3, 157, 2) := rfl
theorem f175_35 : gFetch 175 35 = some (.invokestatic 150, 3, 901, 5) := rfl
theorem f175_38 : gFetch 175 38 = some (.aload_n 3, 1, 0, 0) := rfl
theorem f175_39 : gFetch 175 39 = some (.areturn, 1, 0, 0) := rfl
theorem f176_0 : gFetch 176 0 = some (.iload_n 0, 1, 0, 0) := rfl
theorem f176_1 : gFetch 176 1 = some (.iload_n 1, 1, 0, 0) := rfl
theorem f176_2 : gFetch 176 2 = some (.aconst_null, 1, 0, 0) := rfl
theorem f176_3 : gFetch 176 3 = some (.invokestatic 105, 3, 178, 3) := rfl
theorem f176_6 : gFetch 176 6 = some (.ireturn, 1, 0, 0) := rfl
theorem f177_0 : gFetch 177 0 = some (.iload_n 0, 1, 0, 0) := rfl
theorem f177_1 : gFetch 177 1 = some (.iload_n 1, 1, 0, 0) := rfl
theorem f177_2 : gFetch 177 2 = some (.iload_n 2, 1, 0, 0) := rfl
theorem f177_3 : gFetch 177 3 = some (.invokestatic 194, 3, 156, 2) := rfl
theorem f177_6 : gFetch 177 6 = some (.iadd, 1, 0, 0) := rfl
theorem f177_7 : gFetch 177 7 = some (.istore_n 3, 1, 0, 0) := rfl
theorem f177_8 : gFetch 177 8 = some (.iconst 0, 1, 0, 0) := rfl
theorem f177_9 : gFetch 177 9 = some (.iload_n 3, 1, 0, 0) := rfl
theorem f177_10 : gFetch 177 10 = some (.if_icmp .ge 11, 3, 21, 0) := rfl
theorem f177_13 : gFetch 177 13 = some (.iload_n 3, 1, 0, 0) := rfl
theorem f177_14 : gFetch 177 14 = some (.ldc 200, 2, 0, 2147483639) := rfl
theorem f177_16 : gFetch 177 16 = some (.if_icmp .gt 5, 3, 21, 0) := rfl
theorem f177_19 : gFetch 177 19 = some (.iload_n 3, 1, 0, 0) := rfl
theorem f177_20 : gFetch 177 20 = some (.ireturn, 1, 0, 0) := rfl
theorem f177_21 : gFetch 177 21 = some (.iload_n 0, 1, 0, 0) := rfl
theorem f177_22 : gFetch 177 22 = some (.iload_n 1, 1, 0, 0) := rfl
theorem f177_23 : gFetch 177 23 = some (.invokestatic 201, 3, 999, 0) := rfl
theorem f177_26 : gFetch 177 26 = some (.ireturn, 1, 0, 0) := rfl
theorem f178_0 : gFetch 178 0 = some (.iload_n 0, 1, 0, 0) := rfl
theorem f178_1 : gFetch 178 1 = some (.ifCond .lt 8, 3, 9, 0) := rfl
theorem f178_4 : gFetch 178 4 = some (.iload_n 0, 1, 0, 0) := rfl
theorem f178_5 : gFetch 178 5 = some (.iload_n 1, 1, 0, 0) := rfl
theorem f178_6 : gFetch 178 6 = some (.if_icmp .lt 10, 3, 16, 0) := rfl
theorem f178_9 : gFetch 178 9 = some (.aload_n 2, 1, 0, 0) := rfl
theorem f178_10 : gFetch 178 10 = some (.iload_n 0, 1, 0, 0) := rfl
theorem f178_11 : gFetch 178 11 = some (.iload_n 1, 1, 0, 0) := rfl
theorem f178_12 : gFetch 178 12 = some (.invokestatic 95, 3, 999, 0) := rfl
theorem f178_15 : gFetch 178 15 = some (.athrow, 1, 0, 0) := rfl
theorem f178_16 : gFetch 178 16 = some (.iload_n 0, 1, 0, 0) := rfl
theorem f178_17 : gFetch 178 17 = some (.ireturn, 1, 0, 0) := rfl
theorem f179_0 : gFetch 179 0 = some (.fload_n 0, 1, 0, 0) := rfl
theorem f179_1 : gFetch 179 1 = some (.invokestatic 59, 3, 180, 1) := rfl
theorem f179_4 : gFetch 179 4 = some (.ifCond .ne 8, 3, 12, 0) := rfl
theorem f179_7 : gFetch 179 7 = some (.fload_n 0, 1, 0, 0) := rfl
theorem f179_8 : gFetch 179 8 = some (.invokestatic 74, 3, 904, 1) := rfl
theorem f179_11 : gFetch 179 11 = some (.ireturn, 1, 0, 0) := rfl
theorem f179_12 : gFetch 179 12 = some (.ldc 77, 2, 0, 2143289344) := rfl
theorem f179_14 : gFetch 179 14 = some (.ireturn, 1, 0, 0) := rfl
theorem f180_0 : gFetch 180 0 = some (.fload_n 0, 1, 0, 0) := rfl
theorem f180_1 : gFetch 180 1 = some (.fload_n 0, 1, 0, 0) := rfl
theorem f180_2 : gFetch 180 2 = some (.fcmp .l, 1, 0, 0) := rfl
theorem f180_3 : gFetch 180 3 = some (.ifCond .eq 7, 3, 10, 0) := rfl
theorem f180_6 : gFetch 180 6 = some (.iconst 1, 1, 0, 0) := rfl
theorem f180_7 : gFetch 180 7 = some (.goto 4, 3, 11, 0) := rfl
theorem f180_10 : gFetch 180 10 = some (.iconst 0, 1, 0, 0) := rfl
theorem f180_11 : gFetch 180 11 = some (.ireturn, 1, 0, 0) := rfl
