theorem dX0_init_0 : decode cX0_init 0 = .ok (.aload_n 0, 1) := by decide +kernel
theorem dX0_init_1 : decode cX0_init 1 = .ok (.invokespecial 1, 3) := by decide +kernel
theorem dX0_init_4 : decode cX0_init 4 = .ok (.aload_n 0, 1) := by decide +kernel
theorem dX0_init_5 : decode cX0_init 5 = .ok (.iload_n 1, 1) := by decide +kernel
theorem dX0_init_6 : decode cX0_init 6 = .ok (.iconst 1, 1) := by decide +kernel
theorem dX0_init_7 : decode cX0_init 7 = .ok (.invokestatic 7, 3) := by decide +kernel
theorem dX0_init_10 : decode cX0_init 10 = .ok (.newarray .int, 2) := by decide +kernel
theorem dX0_init_12 : decode cX0_init 12 = .ok (.putfield 13, 3) := by decide +kernel
theorem dX0_init_15 : decode cX0_init 15 = .ok (.return_, 1) := by decide +kernel
theorem dX0_isZero_0 : decode cX0_isZero 0 = .ok (.aload_n 0, 1) := by decide +kernel
theorem dX0_isZero_1 : decode cX0_isZero 1 = .ok (.getfield 19, 3) := by decide +kernel
theorem dX0_isZero_4 : decode cX0_isZero 4 = .ok (.ifCond .ne 7, 3) := by decide +kernel
theorem dX0_isZero_7 : decode cX0_isZero 7 = .ok (.iconst 1, 1) := by decide +kernel
theorem dX0_isZero_8 : decode cX0_isZero 8 = .ok (.goto 4, 3) := by decide +kernel
theorem dX0_isZero_11 : decode cX0_isZero 11 = .ok (.iconst 0, 1) := by decide +kernel
theorem dX0_isZero_12 : decode cX0_isZero 12 = .ok (.ireturn, 1) := by decide +kernel
theorem dX0_digit_0 : decode cX0_digit 0 = .ok (.iload_n 1, 1) := by decide +kernel
theorem dX0_digit_1 : decode cX0_digit 1 = .ok (.ifCond .lt 29, 3) := by decide +kernel
theorem dX0_digit_4 : decode cX0_digit 4 = .ok (.iload_n 1, 1) := by decide +kernel
theorem dX0_digit_5 : decode cX0_digit 5 = .ok (.aload_n 0, 1) := by decide +kernel
theorem dX0_digit_6 : decode cX0_digit 6 = .ok (.getfield 19, 3) := by decide +kernel
theorem dX0_digit_9 : decode cX0_digit 9 = .ok (.if_icmp .ge 21, 3) := by decide +kernel
theorem dX0_digit_12 : decode cX0_digit 12 = .ok (.iload_n 1, 1) := by decide +kernel
theorem dX0_digit_13 : decode cX0_digit 13 = .ok (.aload_n 0, 1) := by decide +kernel
theorem dX0_digit_14 : decode cX0_digit 14 = .ok (.getfield 13, 3) := by decide +kernel
theorem dX0_digit_17 : decode cX0_digit 17 = .ok (.arraylength, 1) := by decide +kernel
theorem dX0_digit_18 : decode cX0_digit 18 = .ok (.if_icmp .ge 12, 3) := by decide +kernel
theorem dX0_digit_21 : decode cX0_digit 21 = .ok (.aload_n 0, 1) := by decide +kernel
theorem dX0_digit_22 : decode cX0_digit 22 = .ok (.getfield 13, 3) := by decide +kernel
theorem dX0_digit_25 : decode cX0_digit 25 = .ok (.iload_n 1, 1) := by decide +kernel
theorem dX0_digit_26 : decode cX0_digit 26 = .ok (.iaload, 1) := by decide +kernel
theorem dX0_digit_27 : decode cX0_digit 27 = .ok (.goto 4, 3) := by decide +kernel
theorem dX0_digit_30 : decode cX0_digit 30 = .ok (.iconst 0, 1) := by decide +kernel
theorem dX0_digit_31 : decode cX0_digit 31 = .ok (.ireturn, 1) := by decide +kernel
theorem dX0_growTo_0 : decode cX0_growTo 0 = .ok (.aload_n 0, 1) := by decide +kernel
theorem dX0_growTo_1 : decode cX0_growTo 1 = .ok (.getfield 19, 3) := by decide +kernel
theorem dX0_growTo_4 : decode cX0_growTo 4 = .ok (.iload_n 1, 1) := by decide +kernel
theorem dX0_growTo_5 : decode cX0_growTo 5 = .ok (.if_icmp .ge 38, 3) := by decide +kernel
theorem dX0_growTo_8 : decode cX0_growTo 8 = .ok (.aload_n 0, 1) := by decide +kernel
theorem dX0_growTo_9 : decode cX0_growTo 9 = .ok (.getfield 19, 3) := by decide +kernel
theorem dX0_growTo_12 : decode cX0_growTo 12 = .ok (.aload_n 0, 1) := by decide +kernel
theorem dX0_growTo_13 : decode cX0_growTo 13 = .ok (.getfield 13, 3) := by decide +kernel
theorem dX0_growTo_16 : decode cX0_growTo 16 = .ok (.arraylength, 1) := by decide +kernel
theorem dX0_growTo_17 : decode cX0_growTo 17 = .ok (.if_icmp .ge 26, 3) := by decide +kernel
theorem dX0_growTo_20 : decode cX0_growTo 20 = .ok (.aload_n 0, 1) := by decide +kernel
theorem dX0_growTo_21 : decode cX0_growTo 21 = .ok (.getfield 13, 3) := by decide +kernel
theorem dX0_growTo_24 : decode cX0_growTo 24 = .ok (.aload_n 0, 1) := by decide +kernel
theorem dX0_growTo_25 : decode cX0_growTo 25 = .ok (.getfield 19, 3) := by decide +kernel
theorem dX0_growTo_28 : decode cX0_growTo 28 = .ok (.iconst 0, 1) := by decide +kernel
theorem dX0_growTo_29 : decode cX0_growTo 29 = .ok (.iastore, 1) := by decide +kernel
theorem dX0_growTo_30 : decode cX0_growTo 30 = .ok (.aload_n 0, 1) := by decide +kernel
theorem dX0_growTo_31 : decode cX0_growTo 31 = .ok (.dup, 1) := by decide +kernel
theorem dX0_growTo_32 : decode cX0_growTo 32 = .ok (.getfield 19, 3) := by decide +kernel
theorem dX0_growTo_35 : decode cX0_growTo 35 = .ok (.iconst 1, 1) := by decide +kernel
theorem dX0_growTo_36 : decode cX0_growTo 36 = .ok (.iadd, 1) := by decide +kernel
theorem dX0_growTo_37 : decode cX0_growTo 37 = .ok (.putfield 19, 3) := by decide +kernel
theorem dX0_growTo_40 : decode cX0_growTo 40 = .ok (.goto (-40), 3) := by decide +kernel
theorem dX0_growTo_43 : decode cX0_growTo 43 = .ok (.return_, 1) := by decide +kernel
theorem dX0_trim_0 : decode cX0_trim 0 = .ok (.aload_n 0, 1) := by decide +kernel
theorem dX0_trim_1 : decode cX0_trim 1 = .ok (.getfield 19, 3) := by decide +kernel
theorem dX0_trim_4 : decode cX0_trim 4 = .ok (.ifCond .le 30, 3) := by decide +kernel
theorem dX0_trim_7 : decode cX0_trim 7 = .ok (.aload_n 0, 1) := by decide +kernel
theorem dX0_trim_8 : decode cX0_trim 8 = .ok (.getfield 13, 3) := by decide +kernel
theorem dX0_trim_11 : decode cX0_trim 11 = .ok (.aload_n 0, 1) := by decide +kernel
theorem dX0_trim_12 : decode cX0_trim 12 = .ok (.getfield 19, 3) := by decide +kernel
theorem dX0_trim_15 : decode cX0_trim 15 = .ok (.iconst 1, 1) := by decide +kernel
theorem dX0_trim_16 : decode cX0_trim 16 = .ok (.isub, 1) := by decide +kernel
theorem dX0_trim_17 : decode cX0_trim 17 = .ok (.iaload, 1) := by decide +kernel
theorem dX0_trim_18 : decode cX0_trim 18 = .ok (.ifCond .ne 16, 3) := by decide +kernel
theorem dX0_trim_21 : decode cX0_trim 21 = .ok (.aload_n 0, 1) := by decide +kernel
theorem dX0_trim_22 : decode cX0_trim 22 = .ok (.dup, 1) := by decide +kernel
theorem dX0_trim_23 : decode cX0_trim 23 = .ok (.getfield 19, 3) := by decide +kernel
theorem dX0_trim_26 : decode cX0_trim 26 = .ok (.iconst 1, 1) := by decide +kernel
theorem dX0_trim_27 : decode cX0_trim 27 = .ok (.isub, 1) := by decide +kernel
theorem dX0_trim_28 : decode cX0_trim 28 = .ok (.putfield 19, 3) := by decide +kernel
theorem dX0_trim_31 : decode cX0_trim 31 = .ok (.goto (-31), 3) := by decide +kernel
theorem dX0_trim_34 : decode cX0_trim 34 = .ok (.return_, 1) := by decide +kernel
theorem dX0_become_0 : decode cX0_become 0 = .ok (.aload_n 0, 1) := by decide +kernel
theorem dX0_become_1 : decode cX0_become 1 = .ok (.iconst 0, 1) := by decide +kernel
theorem dX0_become_2 : decode cX0_become 2 = .ok (.putfield 19, 3) := by decide +kernel
theorem dX0_become_5 : decode cX0_become 5 = .ok (.lload_n 1, 1) := by decide +kernel
theorem dX0_become_6 : decode cX0_become 6 = .ok (.lstore_n 3, 1) := by decide +kernel
theorem dX0_become_7 : decode cX0_become 7 = .ok (.lload_n 3, 1) := by decide +kernel
theorem dX0_become_8 : decode cX0_become 8 = .ok (.lconst 0, 1) := by decide +kernel
theorem dX0_become_9 : decode cX0_become 9 = .ok (.lcmp, 1) := by decide +kernel
theorem dX0_become_10 : decode cX0_become 10 = .ok (.ifCond .le 48, 3) := by decide +kernel
theorem dX0_become_13 : decode cX0_become 13 = .ok (.aload_n 0, 1) := by decide +kernel
theorem dX0_become_14 : decode cX0_become 14 = .ok (.getfield 19, 3) := by decide +kernel
theorem dX0_become_17 : decode cX0_become 17 = .ok (.aload_n 0, 1) := by decide +kernel
theorem dX0_become_18 : decode cX0_become 18 = .ok (.getfield 13, 3) := by decide +kernel
theorem dX0_become_21 : decode cX0_become 21 = .ok (.arraylength, 1) := by decide +kernel
theorem dX0_become_22 : decode cX0_become 22 = .ok (.if_icmp .ge 36, 3) := by decide +kernel
theorem dX0_become_25 : decode cX0_become 25 = .ok (.aload_n 0, 1) := by decide +kernel
theorem dX0_become_26 : decode cX0_become 26 = .ok (.getfield 13, 3) := by decide +kernel
theorem dX0_become_29 : decode cX0_become 29 = .ok (.aload_n 0, 1) := by decide +kernel
theorem dX0_become_30 : decode cX0_become 30 = .ok (.getfield 19, 3) := by decide +kernel
theorem dX0_become_33 : decode cX0_become 33 = .ok (.lload_n 3, 1) := by decide +kernel
theorem dX0_become_34 : decode cX0_become 34 = .ok (.ldc2_w 23, 3) := by decide +kernel
theorem dX0_become_37 : decode cX0_become 37 = .ok (.land, 1) := by decide +kernel
theorem dX0_become_38 : decode cX0_become 38 = .ok (.l2i, 1) := by decide +kernel
theorem dX0_become_39 : decode cX0_become 39 = .ok (.iastore, 1) := by decide +kernel
theorem dX0_become_40 : decode cX0_become 40 = .ok (.aload_n 0, 1) := by decide +kernel
theorem dX0_become_41 : decode cX0_become 41 = .ok (.dup, 1) := by decide +kernel
theorem dX0_become_42 : decode cX0_become 42 = .ok (.getfield 19, 3) := by decide +kernel
theorem dX0_become_45 : decode cX0_become 45 = .ok (.iconst 1, 1) := by decide +kernel
theorem dX0_become_46 : decode cX0_become 46 = .ok (.iadd, 1) := by decide +kernel
theorem dX0_become_47 : decode cX0_become 47 = .ok (.putfield 19, 3) := by decide +kernel
theorem dX0_become_50 : decode cX0_become 50 = .ok (.lload_n 3, 1) := by decide +kernel
theorem dX0_become_51 : decode cX0_become 51 = .ok (.bipush 30, 2) := by decide +kernel
theorem dX0_become_53 : decode cX0_become 53 = .ok (.lshr, 1) := by decide +kernel
theorem dX0_become_54 : decode cX0_become 54 = .ok (.lstore_n 3, 1) := by decide +kernel
theorem dX0_become_55 : decode cX0_become 55 = .ok (.goto (-48), 3) := by decide +kernel
theorem dX0_become_58 : decode cX0_become 58 = .ok (.return_, 1) := by decide +kernel
theorem dX0_copy_0 : decode cX0_copy 0 = .ok (.aload_n 0, 1) := by decide +kernel
theorem dX0_copy_1 : decode cX0_copy 1 = .ok (.aload_n 1, 1) := by decide +kernel
theorem dX0_copy_2 : decode cX0_copy 2 = .ok (.getfield 19, 3) := by decide +kernel
theorem dX0_copy_5 : decode cX0_copy 5 = .ok (.aload_n 0, 1) := by decide +kernel
theorem dX0_copy_6 : decode cX0_copy 6 = .ok (.getfield 13, 3) := by decide +kernel
theorem dX0_copy_9 : decode cX0_copy 9 = .ok (.arraylength, 1) := by decide +kernel
theorem dX0_copy_10 : decode cX0_copy 10 = .ok (.invokestatic 25, 3) := by decide +kernel
theorem dX0_copy_13 : decode cX0_copy 13 = .ok (.putfield 19, 3) := by decide +kernel
theorem dX0_copy_16 : decode cX0_copy 16 = .ok (.aload_n 1, 1) := by decide +kernel
theorem dX0_copy_17 : decode cX0_copy 17 = .ok (.getfield 13, 3) := by decide +kernel
theorem dX0_copy_20 : decode cX0_copy 20 = .ok (.iconst 0, 1) := by decide +kernel
theorem dX0_copy_21 : decode cX0_copy 21 = .ok (.aload_n 0, 1) := by decide +kernel
theorem dX0_copy_22 : decode cX0_copy 22 = .ok (.getfield 13, 3) := by decide +kernel
theorem dX0_copy_25 : decode cX0_copy 25 = .ok (.iconst 0, 1) := by decide +kernel
theorem dX0_copy_26 : decode cX0_copy 26 = .ok (.aload_n 0, 1) := by decide +kernel
theorem dX0_copy_27 : decode cX0_copy 27 = .ok (.getfield 19, 3) := by decide +kernel
theorem dX0_copy_30 : decode cX0_copy 30 = .ok (.invokestatic 28, 3) := by decide +kernel
theorem dX0_copy_33 : decode cX0_copy 33 = .ok (.return_, 1) := by decide +kernel
theorem dX0_times_0 : decode cX0_times 0 = .ok (.iload_n 1, 1) := by decide +kernel
theorem dX0_times_1 : decode cX0_times 1 = .ok (.ifCond .ne 8, 3) := by decide +kernel
theorem dX0_times_4 : decode cX0_times 4 = .ok (.aload_n 0, 1) := by decide +kernel
theorem dX0_times_5 : decode cX0_times 5 = .ok (.iconst 0, 1) := by decide +kernel
theorem dX0_times_6 : decode cX0_times 6 = .ok (.putfield 19, 3) := by decide +kernel
theorem dX0_times_9 : decode cX0_times 9 = .ok (.lconst 0, 1) := by decide +kernel
theorem dX0_times_10 : decode cX0_times 10 = .ok (.lstore_n 2, 1) := by decide +kernel
theorem dX0_times_11 : decode cX0_times 11 = .ok (.iconst 0, 1) := by decide +kernel
theorem dX0_times_12 : decode cX0_times 12 = .ok (.istore 4, 2) := by decide +kernel
theorem dX0_times_14 : decode cX0_times 14 = .ok (.iload 4, 2) := by decide +kernel
theorem dX0_times_16 : decode cX0_times 16 = .ok (.aload_n 0, 1) := by decide +kernel
theorem dX0_times_17 : decode cX0_times 17 = .ok (.getfield 19, 3) := by decide +kernel
theorem dX0_times_20 : decode cX0_times 20 = .ok (.if_icmp .ge 41, 3) := by decide +kernel
theorem dX0_times_23 : decode cX0_times 23 = .ok (.lload_n 2, 1) := by decide +kernel
theorem dX0_times_24 : decode cX0_times 24 = .ok (.aload_n 0, 1) := by decide +kernel
theorem dX0_times_25 : decode cX0_times 25 = .ok (.getfield 13, 3) := by decide +kernel
theorem dX0_times_28 : decode cX0_times 28 = .ok (.iload 4, 2) := by decide +kernel
theorem dX0_times_30 : decode cX0_times 30 = .ok (.iaload, 1) := by decide +kernel
theorem dX0_times_31 : decode cX0_times 31 = .ok (.i2l, 1) := by decide +kernel
theorem dX0_times_32 : decode cX0_times 32 = .ok (.iload_n 1, 1) := by decide +kernel
theorem dX0_times_33 : decode cX0_times 33 = .ok (.i2l, 1) := by decide +kernel
theorem dX0_times_34 : decode cX0_times 34 = .ok (.lmul, 1) := by decide +kernel
theorem dX0_times_35 : decode cX0_times 35 = .ok (.ladd, 1) := by decide +kernel
theorem dX0_times_36 : decode cX0_times 36 = .ok (.lstore_n 2, 1) := by decide +kernel
theorem dX0_times_37 : decode cX0_times 37 = .ok (.aload_n 0, 1) := by decide +kernel
theorem dX0_times_38 : decode cX0_times 38 = .ok (.getfield 13, 3) := by decide +kernel
theorem dX0_times_41 : decode cX0_times 41 = .ok (.iload 4, 2) := by decide +kernel
theorem dX0_times_43 : decode cX0_times 43 = .ok (.lload_n 2, 1) := by decide +kernel
theorem dX0_times_44 : decode cX0_times 44 = .ok (.ldc2_w 23, 3) := by decide +kernel
theorem dX0_times_47 : decode cX0_times 47 = .ok (.land, 1) := by decide +kernel
theorem dX0_times_48 : decode cX0_times 48 = .ok (.l2i, 1) := by decide +kernel
theorem dX0_times_49 : decode cX0_times 49 = .ok (.iastore, 1) := by decide +kernel
theorem dX0_times_50 : decode cX0_times 50 = .ok (.lload_n 2, 1) := by decide +kernel
theorem dX0_times_51 : decode cX0_times 51 = .ok (.bipush 30, 2) := by decide +kernel
theorem dX0_times_53 : decode cX0_times 53 = .ok (.lshr, 1) := by decide +kernel
theorem dX0_times_54 : decode cX0_times 54 = .ok (.lstore_n 2, 1) := by decide +kernel
theorem dX0_times_55 : decode cX0_times 55 = .ok (.iinc 4 1, 3) := by decide +kernel
theorem dX0_times_58 : decode cX0_times 58 = .ok (.goto (-44), 3) := by decide +kernel
theorem dX0_times_61 : decode cX0_times 61 = .ok (.lload_n 2, 1) := by decide +kernel
theorem dX0_times_62 : decode cX0_times 62 = .ok (.lconst 0, 1) := by decide +kernel
theorem dX0_times_63 : decode cX0_times 63 = .ok (.lcmp, 1) := by decide +kernel
theorem dX0_times_64 : decode cX0_times 64 = .ok (.ifCond .le 36, 3) := by decide +kernel
theorem dX0_times_67 : decode cX0_times 67 = .ok (.aload_n 0, 1) := by decide +kernel
theorem dX0_times_68 : decode cX0_times 68 = .ok (.getfield 19, 3) := by decide +kernel
theorem dX0_times_71 : decode cX0_times 71 = .ok (.aload_n 0, 1) := by decide +kernel
theorem dX0_times_72 : decode cX0_times 72 = .ok (.getfield 13, 3) := by decide +kernel
theorem dX0_times_75 : decode cX0_times 75 = .ok (.arraylength, 1) := by decide +kernel
theorem dX0_times_76 : decode cX0_times 76 = .ok (.if_icmp .ge 24, 3) := by decide +kernel
theorem dX0_times_79 : decode cX0_times 79 = .ok (.aload_n 0, 1) := by decide +kernel
theorem dX0_times_80 : decode cX0_times 80 = .ok (.getfield 13, 3) := by decide +kernel
theorem dX0_times_83 : decode cX0_times 83 = .ok (.aload_n 0, 1) := by decide +kernel
theorem dX0_times_84 : decode cX0_times 84 = .ok (.getfield 19, 3) := by decide +kernel
theorem dX0_times_87 : decode cX0_times 87 = .ok (.lload_n 2, 1) := by decide +kernel
theorem dX0_times_88 : decode cX0_times 88 = .ok (.l2i, 1) := by decide +kernel
theorem dX0_times_89 : decode cX0_times 89 = .ok (.iastore, 1) := by decide +kernel
theorem dX0_times_90 : decode cX0_times 90 = .ok (.aload_n 0, 1) := by decide +kernel
theorem dX0_times_91 : decode cX0_times 91 = .ok (.dup, 1) := by decide +kernel
theorem dX0_times_92 : decode cX0_times 92 = .ok (.getfield 19, 3) := by decide +kernel
theorem dX0_times_95 : decode cX0_times 95 = .ok (.iconst 1, 1) := by decide +kernel
theorem dX0_times_96 : decode cX0_times 96 = .ok (.iadd, 1) := by decide +kernel
theorem dX0_times_97 : decode cX0_times 97 = .ok (.putfield 19, 3) := by decide +kernel
theorem dX0_times_100 : decode cX0_times 100 = .ok (.return_, 1) := by decide +kernel
theorem dX0_timesPower_0 : decode cX0_timesPower 0 = .ok (.iload_n 2, 1) := by decide +kernel
theorem dX0_timesPower_1 : decode cX0_timesPower 1 = .ok (.istore_n 3, 1) := by decide +kernel
theorem dX0_timesPower_2 : decode cX0_timesPower 2 = .ok (.iload_n 3, 1) := by decide +kernel
theorem dX0_timesPower_3 : decode cX0_timesPower 3 = .ok (.ifCond .le 46, 3) := by decide +kernel
theorem dX0_timesPower_6 : decode cX0_timesPower 6 = .ok (.iconst 1, 1) := by decide +kernel
theorem dX0_timesPower_7 : decode cX0_timesPower 7 = .ok (.istore 4, 2) := by decide +kernel
theorem dX0_timesPower_9 : decode cX0_timesPower 9 = .ok (.iconst 0, 1) := by decide +kernel
theorem dX0_timesPower_10 : decode cX0_timesPower 10 = .ok (.istore 5, 2) := by decide +kernel
theorem dX0_timesPower_12 : decode cX0_timesPower 12 = .ok (.iload 5, 2) := by decide +kernel
theorem dX0_timesPower_14 : decode cX0_timesPower 14 = .ok (.bipush 9, 2) := by decide +kernel
theorem dX0_timesPower_16 : decode cX0_timesPower 16 = .ok (.if_icmp .ge 21, 3) := by decide +kernel
theorem dX0_timesPower_19 : decode cX0_timesPower 19 = .ok (.iload 5, 2) := by decide +kernel
theorem dX0_timesPower_21 : decode cX0_timesPower 21 = .ok (.iload_n 3, 1) := by decide +kernel
theorem dX0_timesPower_22 : decode cX0_timesPower 22 = .ok (.if_icmp .ge 15, 3) := by decide +kernel
theorem dX0_timesPower_25 : decode cX0_timesPower 25 = .ok (.iload 4, 2) := by decide +kernel
theorem dX0_timesPower_27 : decode cX0_timesPower 27 = .ok (.iload_n 1, 1) := by decide +kernel
theorem dX0_timesPower_28 : decode cX0_timesPower 28 = .ok (.imul, 1) := by decide +kernel
theorem dX0_timesPower_29 : decode cX0_timesPower 29 = .ok (.istore 4, 2) := by decide +kernel
theorem dX0_timesPower_31 : decode cX0_timesPower 31 = .ok (.iinc 5 1, 3) := by decide +kernel
theorem dX0_timesPower_34 : decode cX0_timesPower 34 = .ok (.goto (-22), 3) := by decide +kernel
theorem dX0_timesPower_37 : decode cX0_timesPower 37 = .ok (.aload_n 0, 1) := by decide +kernel
theorem dX0_timesPower_38 : decode cX0_timesPower 38 = .ok (.iload 4, 2) := by decide +kernel
theorem dX0_timesPower_40 : decode cX0_timesPower 40 = .ok (.invokevirtual 34, 3) := by decide +kernel
theorem dX0_timesPower_43 : decode cX0_timesPower 43 = .ok (.iinc 3 (-9), 3) := by decide +kernel
theorem dX0_timesPower_46 : decode cX0_timesPower 46 = .ok (.goto (-44), 3) := by decide +kernel
theorem dX0_timesPower_49 : decode cX0_timesPower 49 = .ok (.return_, 1) := by decide +kernel
theorem dX0_plus_0 : decode cX0_plus 0 = .ok (.aload_n 0, 1) := by decide +kernel
theorem dX0_plus_1 : decode cX0_plus 1 = .ok (.aload_n 0, 1) := by decide +kernel
theorem dX0_plus_2 : decode cX0_plus 2 = .ok (.getfield 19, 3) := by decide +kernel
theorem dX0_plus_5 : decode cX0_plus 5 = .ok (.aload_n 1, 1) := by decide +kernel
theorem dX0_plus_6 : decode cX0_plus 6 = .ok (.getfield 19, 3) := by decide +kernel
theorem dX0_plus_9 : decode cX0_plus 9 = .ok (.invokestatic 7, 3) := by decide +kernel
theorem dX0_plus_12 : decode cX0_plus 12 = .ok (.iconst 1, 1) := by decide +kernel
theorem dX0_plus_13 : decode cX0_plus 13 = .ok (.iadd, 1) := by decide +kernel
theorem dX0_plus_14 : decode cX0_plus 14 = .ok (.invokevirtual 38, 3) := by decide +kernel
theorem dX0_plus_17 : decode cX0_plus 17 = .ok (.iconst 0, 1) := by decide +kernel
theorem dX0_plus_18 : decode cX0_plus 18 = .ok (.istore_n 2, 1) := by decide +kernel
theorem dX0_plus_19 : decode cX0_plus 19 = .ok (.iconst 0, 1) := by decide +kernel
theorem dX0_plus_20 : decode cX0_plus 20 = .ok (.istore_n 3, 1) := by decide +kernel
theorem dX0_plus_21 : decode cX0_plus 21 = .ok (.iload_n 3, 1) := by decide +kernel
theorem dX0_plus_22 : decode cX0_plus 22 = .ok (.aload_n 0, 1) := by decide +kernel
theorem dX0_plus_23 : decode cX0_plus 23 = .ok (.getfield 19, 3) := by decide +kernel
theorem dX0_plus_26 : decode cX0_plus 26 = .ok (.if_icmp .ge 52, 3) := by decide +kernel
theorem dX0_plus_29 : decode cX0_plus 29 = .ok (.iload_n 2, 1) := by decide +kernel
theorem dX0_plus_30 : decode cX0_plus 30 = .ok (.aload_n 0, 1) := by decide +kernel
theorem dX0_plus_31 : decode cX0_plus 31 = .ok (.getfield 13, 3) := by decide +kernel
theorem dX0_plus_34 : decode cX0_plus 34 = .ok (.iload_n 3, 1) := by decide +kernel
theorem dX0_plus_35 : decode cX0_plus 35 = .ok (.iaload, 1) := by decide +kernel
theorem dX0_plus_36 : decode cX0_plus 36 = .ok (.iload_n 3, 1) := by decide +kernel
theorem dX0_plus_37 : decode cX0_plus 37 = .ok (.aload_n 1, 1) := by decide +kernel
theorem dX0_plus_38 : decode cX0_plus 38 = .ok (.getfield 19, 3) := by decide +kernel
theorem dX0_plus_41 : decode cX0_plus 41 = .ok (.if_icmp .ge 12, 3) := by decide +kernel
theorem dX0_plus_44 : decode cX0_plus 44 = .ok (.aload_n 1, 1) := by decide +kernel
theorem dX0_plus_45 : decode cX0_plus 45 = .ok (.getfield 13, 3) := by decide +kernel
theorem dX0_plus_48 : decode cX0_plus 48 = .ok (.iload_n 3, 1) := by decide +kernel
theorem dX0_plus_49 : decode cX0_plus 49 = .ok (.iaload, 1) := by decide +kernel
theorem dX0_plus_50 : decode cX0_plus 50 = .ok (.goto 4, 3) := by decide +kernel
theorem dX0_plus_53 : decode cX0_plus 53 = .ok (.iconst 0, 1) := by decide +kernel
theorem dX0_plus_54 : decode cX0_plus 54 = .ok (.iadd, 1) := by decide +kernel
theorem dX0_plus_55 : decode cX0_plus 55 = .ok (.iadd, 1) := by decide +kernel
theorem dX0_plus_56 : decode cX0_plus 56 = .ok (.istore_n 2, 1) := by decide +kernel
theorem dX0_plus_57 : decode cX0_plus 57 = .ok (.aload_n 0, 1) := by decide +kernel
theorem dX0_plus_58 : decode cX0_plus 58 = .ok (.getfield 13, 3) := by decide +kernel
theorem dX0_plus_61 : decode cX0_plus 61 = .ok (.iload_n 3, 1) := by decide +kernel
theorem dX0_plus_62 : decode cX0_plus 62 = .ok (.iload_n 2, 1) := by decide +kernel
theorem dX0_plus_63 : decode cX0_plus 63 = .ok (.ldc 41, 2) := by decide +kernel
theorem dX0_plus_65 : decode cX0_plus 65 = .ok (.iand, 1) := by decide +kernel
theorem dX0_plus_66 : decode cX0_plus 66 = .ok (.iastore, 1) := by decide +kernel
theorem dX0_plus_67 : decode cX0_plus 67 = .ok (.iload_n 2, 1) := by decide +kernel
theorem dX0_plus_68 : decode cX0_plus 68 = .ok (.bipush 30, 2) := by decide +kernel
theorem dX0_plus_70 : decode cX0_plus 70 = .ok (.ishr, 1) := by decide +kernel
theorem dX0_plus_71 : decode cX0_plus 71 = .ok (.istore_n 2, 1) := by decide +kernel
theorem dX0_plus_72 : decode cX0_plus 72 = .ok (.iinc 3 1, 3) := by decide +kernel
theorem dX0_plus_75 : decode cX0_plus 75 = .ok (.goto (-54), 3) := by decide +kernel
theorem dX0_plus_78 : decode cX0_plus 78 = .ok (.aload_n 0, 1) := by decide +kernel
theorem dX0_plus_79 : decode cX0_plus 79 = .ok (.invokevirtual 42, 3) := by decide +kernel
theorem dX0_plus_82 : decode cX0_plus 82 = .ok (.return_, 1) := by decide +kernel
theorem dX0_product_0 : decode cX0_product 0 = .ok (.aload_n 0, 1) := by decide +kernel
theorem dX0_product_1 : decode cX0_product 1 = .ok (.iconst 0, 1) := by decide +kernel
theorem dX0_product_2 : decode cX0_product 2 = .ok (.putfield 19, 3) := by decide +kernel
theorem dX0_product_5 : decode cX0_product 5 = .ok (.aload_n 0, 1) := by decide +kernel
theorem dX0_product_6 : decode cX0_product 6 = .ok (.aload_n 1, 1) := by decide +kernel
theorem dX0_product_7 : decode cX0_product 7 = .ok (.getfield 19, 3) := by decide +kernel
theorem dX0_product_10 : decode cX0_product 10 = .ok (.aload_n 2, 1) := by decide +kernel
theorem dX0_product_11 : decode cX0_product 11 = .ok (.getfield 19, 3) := by decide +kernel
theorem dX0_product_14 : decode cX0_product 14 = .ok (.iadd, 1) := by decide +kernel
theorem dX0_product_15 : decode cX0_product 15 = .ok (.invokevirtual 38, 3) := by decide +kernel
theorem dX0_product_18 : decode cX0_product 18 = .ok (.iconst 0, 1) := by decide +kernel
theorem dX0_product_19 : decode cX0_product 19 = .ok (.istore_n 3, 1) := by decide +kernel
theorem dX0_product_20 : decode cX0_product 20 = .ok (.iload_n 3, 1) := by decide +kernel
theorem dX0_product_21 : decode cX0_product 21 = .ok (.aload_n 1, 1) := by decide +kernel
theorem dX0_product_22 : decode cX0_product 22 = .ok (.getfield 19, 3) := by decide +kernel
theorem dX0_product_25 : decode cX0_product 25 = .ok (.if_icmp .ge 127, 3) := by decide +kernel
theorem dX0_product_28 : decode cX0_product 28 = .ok (.aload_n 1, 1) := by decide +kernel
theorem dX0_product_29 : decode cX0_product 29 = .ok (.getfield 13, 3) := by decide +kernel
theorem dX0_product_32 : decode cX0_product 32 = .ok (.iload_n 3, 1) := by decide +kernel
theorem dX0_product_33 : decode cX0_product 33 = .ok (.iaload, 1) := by decide +kernel
theorem dX0_product_34 : decode cX0_product 34 = .ok (.i2l, 1) := by decide +kernel
theorem dX0_product_35 : decode cX0_product 35 = .ok (.lstore 4, 2) := by decide +kernel
theorem dX0_product_37 : decode cX0_product 37 = .ok (.lconst 0, 1) := by decide +kernel
theorem dX0_product_38 : decode cX0_product 38 = .ok (.lstore 6, 2) := by decide +kernel
theorem dX0_product_40 : decode cX0_product 40 = .ok (.iconst 0, 1) := by decide +kernel
theorem dX0_product_41 : decode cX0_product 41 = .ok (.istore 8, 2) := by decide +kernel
theorem dX0_product_43 : decode cX0_product 43 = .ok (.iload 8, 2) := by decide +kernel
theorem dX0_product_45 : decode cX0_product 45 = .ok (.aload_n 2, 1) := by decide +kernel
theorem dX0_product_46 : decode cX0_product 46 = .ok (.getfield 19, 3) := by decide +kernel
theorem dX0_product_49 : decode cX0_product 49 = .ok (.if_icmp .ge 70, 3) := by decide +kernel
theorem dX0_product_52 : decode cX0_product 52 = .ok (.iload_n 3, 1) := by decide +kernel
theorem dX0_product_53 : decode cX0_product 53 = .ok (.iload 8, 2) := by decide +kernel
theorem dX0_product_55 : decode cX0_product 55 = .ok (.iadd, 1) := by decide +kernel
theorem dX0_product_56 : decode cX0_product 56 = .ok (.aload_n 0, 1) := by decide +kernel
theorem dX0_product_57 : decode cX0_product 57 = .ok (.getfield 19, 3) := by decide +kernel
theorem dX0_product_60 : decode cX0_product 60 = .ok (.if_icmp .ge 59, 3) := by decide +kernel
theorem dX0_product_63 : decode cX0_product 63 = .ok (.lload 6, 2) := by decide +kernel
theorem dX0_product_65 : decode cX0_product 65 = .ok (.lload 4, 2) := by decide +kernel
theorem dX0_product_67 : decode cX0_product 67 = .ok (.aload_n 2, 1) := by decide +kernel
theorem dX0_product_68 : decode cX0_product 68 = .ok (.getfield 13, 3) := by decide +kernel
theorem dX0_product_71 : decode cX0_product 71 = .ok (.iload 8, 2) := by decide +kernel
theorem dX0_product_73 : decode cX0_product 73 = .ok (.iaload, 1) := by decide +kernel
theorem dX0_product_74 : decode cX0_product 74 = .ok (.i2l, 1) := by decide +kernel
theorem dX0_product_75 : decode cX0_product 75 = .ok (.lmul, 1) := by decide +kernel
theorem dX0_product_76 : decode cX0_product 76 = .ok (.aload_n 0, 1) := by decide +kernel
theorem dX0_product_77 : decode cX0_product 77 = .ok (.getfield 13, 3) := by decide +kernel
theorem dX0_product_80 : decode cX0_product 80 = .ok (.iload_n 3, 1) := by decide +kernel
theorem dX0_product_81 : decode cX0_product 81 = .ok (.iload 8, 2) := by decide +kernel
theorem dX0_product_83 : decode cX0_product 83 = .ok (.iadd, 1) := by decide +kernel
theorem dX0_product_84 : decode cX0_product 84 = .ok (.iaload, 1) := by decide +kernel
theorem dX0_product_85 : decode cX0_product 85 = .ok (.i2l, 1) := by decide +kernel
theorem dX0_product_86 : decode cX0_product 86 = .ok (.ladd, 1) := by decide +kernel
theorem dX0_product_87 : decode cX0_product 87 = .ok (.ladd, 1) := by decide +kernel
theorem dX0_product_88 : decode cX0_product 88 = .ok (.lstore 6, 2) := by decide +kernel
theorem dX0_product_90 : decode cX0_product 90 = .ok (.aload_n 0, 1) := by decide +kernel
theorem dX0_product_91 : decode cX0_product 91 = .ok (.getfield 13, 3) := by decide +kernel
theorem dX0_product_94 : decode cX0_product 94 = .ok (.iload_n 3, 1) := by decide +kernel
theorem dX0_product_95 : decode cX0_product 95 = .ok (.iload 8, 2) := by decide +kernel
theorem dX0_product_97 : decode cX0_product 97 = .ok (.iadd, 1) := by decide +kernel
theorem dX0_product_98 : decode cX0_product 98 = .ok (.lload 6, 2) := by decide +kernel
theorem dX0_product_100 : decode cX0_product 100 = .ok (.ldc2_w 23, 3) := by decide +kernel
theorem dX0_product_103 : decode cX0_product 103 = .ok (.land, 1) := by decide +kernel
theorem dX0_product_104 : decode cX0_product 104 = .ok (.l2i, 1) := by decide +kernel
theorem dX0_product_105 : decode cX0_product 105 = .ok (.iastore, 1) := by decide +kernel
theorem dX0_product_106 : decode cX0_product 106 = .ok (.lload 6, 2) := by decide +kernel
theorem dX0_product_108 : decode cX0_product 108 = .ok (.bipush 30, 2) := by decide +kernel
theorem dX0_product_110 : decode cX0_product 110 = .ok (.lshr, 1) := by decide +kernel
theorem dX0_product_111 : decode cX0_product 111 = .ok (.lstore 6, 2) := by decide +kernel
theorem dX0_product_113 : decode cX0_product 113 = .ok (.iinc 8 1, 3) := by decide +kernel
theorem dX0_product_116 : decode cX0_product 116 = .ok (.goto (-73), 3) := by decide +kernel
theorem dX0_product_119 : decode cX0_product 119 = .ok (.iload_n 3, 1) := by decide +kernel
theorem dX0_product_120 : decode cX0_product 120 = .ok (.aload_n 2, 1) := by decide +kernel
theorem dX0_product_121 : decode cX0_product 121 = .ok (.getfield 19, 3) := by decide +kernel
theorem dX0_product_124 : decode cX0_product 124 = .ok (.iadd, 1) := by decide +kernel
theorem dX0_product_125 : decode cX0_product 125 = .ok (.aload_n 0, 1) := by decide +kernel
theorem dX0_product_126 : decode cX0_product 126 = .ok (.getfield 19, 3) := by decide +kernel
theorem dX0_product_129 : decode cX0_product 129 = .ok (.if_icmp .ge 17, 3) := by decide +kernel
theorem dX0_product_132 : decode cX0_product 132 = .ok (.aload_n 0, 1) := by decide +kernel
theorem dX0_product_133 : decode cX0_product 133 = .ok (.getfield 13, 3) := by decide +kernel
theorem dX0_product_136 : decode cX0_product 136 = .ok (.iload_n 3, 1) := by decide +kernel
theorem dX0_product_137 : decode cX0_product 137 = .ok (.aload_n 2, 1) := by decide +kernel
theorem dX0_product_138 : decode cX0_product 138 = .ok (.getfield 19, 3) := by decide +kernel
theorem dX0_product_141 : decode cX0_product 141 = .ok (.iadd, 1) := by decide +kernel
theorem dX0_product_142 : decode cX0_product 142 = .ok (.lload 6, 2) := by decide +kernel
theorem dX0_product_144 : decode cX0_product 144 = .ok (.l2i, 1) := by decide +kernel
theorem dX0_product_145 : decode cX0_product 145 = .ok (.iastore, 1) := by decide +kernel
theorem dX0_product_146 : decode cX0_product 146 = .ok (.iinc 3 1, 3) := by decide +kernel
theorem dX0_product_149 : decode cX0_product 149 = .ok (.goto (-129), 3) := by decide +kernel
theorem dX0_product_152 : decode cX0_product 152 = .ok (.aload_n 0, 1) := by decide +kernel
theorem dX0_product_153 : decode cX0_product 153 = .ok (.invokevirtual 42, 3) := by decide +kernel
theorem dX0_product_156 : decode cX0_product 156 = .ok (.return_, 1) := by decide +kernel
theorem dX0_isBelow_0 : decode cX0_isBelow 0 = .ok (.aload_n 0, 1) := by decide +kernel
theorem dX0_isBelow_1 : decode cX0_isBelow 1 = .ok (.getfield 19, 3) := by decide +kernel
theorem dX0_isBelow_4 : decode cX0_isBelow 4 = .ok (.aload_n 1, 1) := by decide +kernel
theorem dX0_isBelow_5 : decode cX0_isBelow 5 = .ok (.getfield 19, 3) := by decide +kernel
theorem dX0_isBelow_8 : decode cX0_isBelow 8 = .ok (.if_icmp .eq 20, 3) := by decide +kernel
theorem dX0_isBelow_11 : decode cX0_isBelow 11 = .ok (.aload_n 0, 1) := by decide +kernel
theorem dX0_isBelow_12 : decode cX0_isBelow 12 = .ok (.getfield 19, 3) := by decide +kernel
theorem dX0_isBelow_15 : decode cX0_isBelow 15 = .ok (.aload_n 1, 1) := by decide +kernel
theorem dX0_isBelow_16 : decode cX0_isBelow 16 = .ok (.getfield 19, 3) := by decide +kernel
theorem dX0_isBelow_19 : decode cX0_isBelow 19 = .ok (.if_icmp .ge 7, 3) := by decide +kernel
theorem dX0_isBelow_22 : decode cX0_isBelow 22 = .ok (.iconst 1, 1) := by decide +kernel
theorem dX0_isBelow_23 : decode cX0_isBelow 23 = .ok (.goto 4, 3) := by decide +kernel
theorem dX0_isBelow_26 : decode cX0_isBelow 26 = .ok (.iconst 0, 1) := by decide +kernel
theorem dX0_isBelow_27 : decode cX0_isBelow 27 = .ok (.ireturn, 1) := by decide +kernel
theorem dX0_isBelow_28 : decode cX0_isBelow 28 = .ok (.aload_n 0, 1) := by decide +kernel
theorem dX0_isBelow_29 : decode cX0_isBelow 29 = .ok (.getfield 19, 3) := by decide +kernel
theorem dX0_isBelow_32 : decode cX0_isBelow 32 = .ok (.iconst 1, 1) := by decide +kernel
theorem dX0_isBelow_33 : decode cX0_isBelow 33 = .ok (.isub, 1) := by decide +kernel
theorem dX0_isBelow_34 : decode cX0_isBelow 34 = .ok (.istore_n 2, 1) := by decide +kernel
theorem dX0_isBelow_35 : decode cX0_isBelow 35 = .ok (.iload_n 2, 1) := by decide +kernel
theorem dX0_isBelow_36 : decode cX0_isBelow 36 = .ok (.ifCond .lt 45, 3) := by decide +kernel
theorem dX0_isBelow_39 : decode cX0_isBelow 39 = .ok (.aload_n 0, 1) := by decide +kernel
theorem dX0_isBelow_40 : decode cX0_isBelow 40 = .ok (.getfield 13, 3) := by decide +kernel
theorem dX0_isBelow_43 : decode cX0_isBelow 43 = .ok (.iload_n 2, 1) := by decide +kernel
theorem dX0_isBelow_44 : decode cX0_isBelow 44 = .ok (.iaload, 1) := by decide +kernel
theorem dX0_isBelow_45 : decode cX0_isBelow 45 = .ok (.aload_n 1, 1) := by decide +kernel
theorem dX0_isBelow_46 : decode cX0_isBelow 46 = .ok (.getfield 13, 3) := by decide +kernel
theorem dX0_isBelow_49 : decode cX0_isBelow 49 = .ok (.iload_n 2, 1) := by decide +kernel
theorem dX0_isBelow_50 : decode cX0_isBelow 50 = .ok (.iaload, 1) := by decide +kernel
theorem dX0_isBelow_51 : decode cX0_isBelow 51 = .ok (.if_icmp .eq 24, 3) := by decide +kernel
theorem dX0_isBelow_54 : decode cX0_isBelow 54 = .ok (.aload_n 0, 1) := by decide +kernel
theorem dX0_isBelow_55 : decode cX0_isBelow 55 = .ok (.getfield 13, 3) := by decide +kernel
theorem dX0_isBelow_58 : decode cX0_isBelow 58 = .ok (.iload_n 2, 1) := by decide +kernel
theorem dX0_isBelow_59 : decode cX0_isBelow 59 = .ok (.iaload, 1) := by decide +kernel
theorem dX0_isBelow_60 : decode cX0_isBelow 60 = .ok (.aload_n 1, 1) := by decide +kernel
theorem dX0_isBelow_61 : decode cX0_isBelow 61 = .ok (.getfield 13, 3) := by decide +kernel
theorem dX0_isBelow_64 : decode cX0_isBelow 64 = .ok (.iload_n 2, 1) := by decide +kernel
theorem dX0_isBelow_65 : decode cX0_isBelow 65 = .ok (.iaload, 1) := by decide +kernel
theorem dX0_isBelow_66 : decode cX0_isBelow 66 = .ok (.if_icmp .ge 7, 3) := by decide +kernel
theorem dX0_isBelow_69 : decode cX0_isBelow 69 = .ok (.iconst 1, 1) := by decide +kernel
theorem dX0_isBelow_70 : decode cX0_isBelow 70 = .ok (.goto 4, 3) := by decide +kernel
theorem dX0_isBelow_73 : decode cX0_isBelow 73 = .ok (.iconst 0, 1) := by decide +kernel
theorem dX0_isBelow_74 : decode cX0_isBelow 74 = .ok (.ireturn, 1) := by decide +kernel
theorem dX0_isBelow_75 : decode cX0_isBelow 75 = .ok (.iinc 2 (-1), 3) := by decide +kernel
theorem dX0_isBelow_78 : decode cX0_isBelow 78 = .ok (.goto (-43), 3) := by decide +kernel
theorem dX0_isBelow_81 : decode cX0_isBelow 81 = .ok (.iconst 0, 1) := by decide +kernel
theorem dX0_isBelow_82 : decode cX0_isBelow 82 = .ok (.ireturn, 1) := by decide +kernel
theorem dX0_divide_0 : decode cX0_divide 0 = .ok (.aload_n 2, 1) := by decide +kernel
theorem dX0_divide_1 : decode cX0_divide 1 = .ok (.lconst 0, 1) := by decide +kernel
theorem dX0_divide_2 : decode cX0_divide 2 = .ok (.invokevirtual 45, 3) := by decide +kernel
theorem dX0_divide_5 : decode cX0_divide 5 = .ok (.iconst 0, 1) := by decide +kernel
theorem dX0_divide_6 : decode cX0_divide 6 = .ok (.istore_n 3, 1) := by decide +kernel
theorem dX0_divide_7 : decode cX0_divide 7 = .ok (.iload_n 3, 1) := by decide +kernel
theorem dX0_divide_8 : decode cX0_divide 8 = .ok (.ldc 49, 2) := by decide +kernel
theorem dX0_divide_10 : decode cX0_divide 10 = .ok (.if_icmp .ge 136, 3) := by decide +kernel
theorem dX0_divide_13 : decode cX0_divide 13 = .ok (.aload_n 1, 1) := by decide +kernel
theorem dX0_divide_14 : decode cX0_divide 14 = .ok (.invokevirtual 50, 3) := by decide +kernel
theorem dX0_divide_17 : decode cX0_divide 17 = .ok (.ifCond .ne 129, 3) := by decide +kernel
theorem dX0_divide_20 : decode cX0_divide 20 = .ok (.aload_n 0, 1) := by decide +kernel
theorem dX0_divide_21 : decode cX0_divide 21 = .ok (.aload_n 1, 1) := by decide +kernel
theorem dX0_divide_22 : decode cX0_divide 22 = .ok (.invokevirtual 54, 3) := by decide +kernel
theorem dX0_divide_25 : decode cX0_divide 25 = .ok (.ifCond .ne 121, 3) := by decide +kernel
theorem dX0_divide_28 : decode cX0_divide 28 = .ok (.aload_n 0, 1) := by decide +kernel
theorem dX0_divide_29 : decode cX0_divide 29 = .ok (.getfield 19, 3) := by decide +kernel
theorem dX0_divide_32 : decode cX0_divide 32 = .ok (.aload_n 1, 1) := by decide +kernel
theorem dX0_divide_33 : decode cX0_divide 33 = .ok (.getfield 19, 3) := by decide +kernel
theorem dX0_divide_36 : decode cX0_divide 36 = .ok (.isub, 1) := by decide +kernel
theorem dX0_divide_37 : decode cX0_divide 37 = .ok (.istore 4, 2) := by decide +kernel
theorem dX0_divide_39 : decode cX0_divide 39 = .ok (.aload_n 0, 1) := by decide +kernel
theorem dX0_divide_40 : decode cX0_divide 40 = .ok (.aload_n 0, 1) := by decide +kernel
theorem dX0_divide_41 : decode cX0_divide 41 = .ok (.getfield 19, 3) := by decide +kernel
theorem dX0_divide_44 : decode cX0_divide 44 = .ok (.iconst 1, 1) := by decide +kernel
theorem dX0_divide_45 : decode cX0_divide 45 = .ok (.isub, 1) := by decide +kernel
theorem dX0_divide_46 : decode cX0_divide 46 = .ok (.invokevirtual 58, 3) := by decide +kernel
theorem dX0_divide_49 : decode cX0_divide 49 = .ok (.i2l, 1) := by decide +kernel
theorem dX0_divide_50 : decode cX0_divide 50 = .ok (.lstore 5, 2) := by decide +kernel
theorem dX0_divide_52 : decode cX0_divide 52 = .ok (.aload_n 1, 1) := by decide +kernel
theorem dX0_divide_53 : decode cX0_divide 53 = .ok (.aload_n 1, 1) := by decide +kernel
theorem dX0_divide_54 : decode cX0_divide 54 = .ok (.getfield 19, 3) := by decide +kernel
theorem dX0_divide_57 : decode cX0_divide 57 = .ok (.iconst 1, 1) := by decide +kernel
theorem dX0_divide_58 : decode cX0_divide 58 = .ok (.isub, 1) := by decide +kernel
theorem dX0_divide_59 : decode cX0_divide 59 = .ok (.invokevirtual 58, 3) := by decide +kernel
theorem dX0_divide_62 : decode cX0_divide 62 = .ok (.i2l, 1) := by decide +kernel
theorem dX0_divide_63 : decode cX0_divide 63 = .ok (.lconst 1, 1) := by decide +kernel
theorem dX0_divide_64 : decode cX0_divide 64 = .ok (.ladd, 1) := by decide +kernel
theorem dX0_divide_65 : decode cX0_divide 65 = .ok (.lstore 7, 2) := by decide +kernel
theorem dX0_divide_67 : decode cX0_divide 67 = .ok (.iload 4, 2) := by decide +kernel
theorem dX0_divide_69 : decode cX0_divide 69 = .ok (.ifCond .ne 23, 3) := by decide +kernel
theorem dX0_divide_72 : decode cX0_divide 72 = .ok (.aload_n 0, 1) := by decide +kernel
theorem dX0_divide_73 : decode cX0_divide 73 = .ok (.invokevirtual 62, 3) := by decide +kernel
theorem dX0_divide_76 : decode cX0_divide 76 = .ok (.aload_n 1, 1) := by decide +kernel
theorem dX0_divide_77 : decode cX0_divide 77 = .ok (.invokevirtual 62, 3) := by decide +kernel
theorem dX0_divide_80 : decode cX0_divide 80 = .ok (.lconst 1, 1) := by decide +kernel
theorem dX0_divide_81 : decode cX0_divide 81 = .ok (.ladd, 1) := by decide +kernel
theorem dX0_divide_82 : decode cX0_divide 82 = .ok (.ldiv, 1) := by decide +kernel
theorem dX0_divide_83 : decode cX0_divide 83 = .ok (.lconst 1, 1) := by decide +kernel
theorem dX0_divide_84 : decode cX0_divide 84 = .ok (.invokestatic 66, 3) := by decide +kernel
theorem dX0_divide_87 : decode cX0_divide 87 = .ok (.lstore 9, 2) := by decide +kernel
theorem dX0_divide_89 : decode cX0_divide 89 = .ok (.goto 33, 3) := by decide +kernel
theorem dX0_divide_92 : decode cX0_divide 92 = .ok (.lload 5, 2) := by decide +kernel
theorem dX0_divide_94 : decode cX0_divide 94 = .ok (.lload 7, 2) := by decide +kernel
theorem dX0_divide_96 : decode cX0_divide 96 = .ok (.lcmp, 1) := by decide +kernel
theorem dX0_divide_97 : decode cX0_divide 97 = .ok (.ifCond .lt 13, 3) := by decide +kernel
theorem dX0_divide_100 : decode cX0_divide 100 = .ok (.lload 5, 2) := by decide +kernel
theorem dX0_divide_102 : decode cX0_divide 102 = .ok (.lload 7, 2) := by decide +kernel
theorem dX0_divide_104 : decode cX0_divide 104 = .ok (.ldiv, 1) := by decide +kernel
theorem dX0_divide_105 : decode cX0_divide 105 = .ok (.lstore 9, 2) := by decide +kernel
theorem dX0_divide_107 : decode cX0_divide 107 = .ok (.goto 15, 3) := by decide +kernel
theorem dX0_divide_110 : decode cX0_divide 110 = .ok (.iinc 4 (-1), 3) := by decide +kernel
theorem dX0_divide_113 : decode cX0_divide 113 = .ok (.aload_n 0, 1) := by decide +kernel
theorem dX0_divide_114 : decode cX0_divide 114 = .ok (.invokevirtual 62, 3) := by decide +kernel
theorem dX0_divide_117 : decode cX0_divide 117 = .ok (.lload 7, 2) := by decide +kernel
theorem dX0_divide_119 : decode cX0_divide 119 = .ok (.ldiv, 1) := by decide +kernel
theorem dX0_divide_120 : decode cX0_divide 120 = .ok (.lstore 9, 2) := by decide +kernel
theorem dX0_divide_122 : decode cX0_divide 122 = .ok (.aload_n 0, 1) := by decide +kernel
theorem dX0_divide_123 : decode cX0_divide 123 = .ok (.aload_n 1, 1) := by decide +kernel
theorem dX0_divide_124 : decode cX0_divide 124 = .ok (.lload 9, 2) := by decide +kernel
theorem dX0_divide_126 : decode cX0_divide 126 = .ok (.iload 4, 2) := by decide +kernel
theorem dX0_divide_128 : decode cX0_divide 128 = .ok (.invokevirtual 69, 3) := by decide +kernel
theorem dX0_divide_131 : decode cX0_divide 131 = .ok (.aload_n 2, 1) := by decide +kernel
theorem dX0_divide_132 : decode cX0_divide 132 = .ok (.lload 9, 2) := by decide +kernel
theorem dX0_divide_134 : decode cX0_divide 134 = .ok (.l2i, 1) := by decide +kernel
theorem dX0_divide_135 : decode cX0_divide 135 = .ok (.iload 4, 2) := by decide +kernel
theorem dX0_divide_137 : decode cX0_divide 137 = .ok (.invokevirtual 73, 3) := by decide +kernel
theorem dX0_divide_140 : decode cX0_divide 140 = .ok (.iinc 3 1, 3) := by decide +kernel
theorem dX0_divide_143 : decode cX0_divide 143 = .ok (.goto (-136), 3) := by decide +kernel
theorem dX0_divide_146 : decode cX0_divide 146 = .ok (.return_, 1) := by decide +kernel
theorem dX0_topTwo_0 : decode cX0_topTwo 0 = .ok (.aload_n 0, 1) := by decide +kernel
theorem dX0_topTwo_1 : decode cX0_topTwo 1 = .ok (.aload_n 0, 1) := by decide +kernel
theorem dX0_topTwo_2 : decode cX0_topTwo 2 = .ok (.getfield 19, 3) := by decide +kernel
theorem dX0_topTwo_5 : decode cX0_topTwo 5 = .ok (.iconst 1, 1) := by decide +kernel
theorem dX0_topTwo_6 : decode cX0_topTwo 6 = .ok (.isub, 1) := by decide +kernel
theorem dX0_topTwo_7 : decode cX0_topTwo 7 = .ok (.invokevirtual 58, 3) := by decide +kernel
theorem dX0_topTwo_10 : decode cX0_topTwo 10 = .ok (.i2l, 1) := by decide +kernel
theorem dX0_topTwo_11 : decode cX0_topTwo 11 = .ok (.bipush 30, 2) := by decide +kernel
theorem dX0_topTwo_13 : decode cX0_topTwo 13 = .ok (.lshl, 1) := by decide +kernel
theorem dX0_topTwo_14 : decode cX0_topTwo 14 = .ok (.aload_n 0, 1) := by decide +kernel
theorem dX0_topTwo_15 : decode cX0_topTwo 15 = .ok (.aload_n 0, 1) := by decide +kernel
theorem dX0_topTwo_16 : decode cX0_topTwo 16 = .ok (.getfield 19, 3) := by decide +kernel
theorem dX0_topTwo_19 : decode cX0_topTwo 19 = .ok (.iconst 2, 1) := by decide +kernel
theorem dX0_topTwo_20 : decode cX0_topTwo 20 = .ok (.isub, 1) := by decide +kernel
theorem dX0_topTwo_21 : decode cX0_topTwo 21 = .ok (.invokevirtual 58, 3) := by decide +kernel
theorem dX0_topTwo_24 : decode cX0_topTwo 24 = .ok (.i2l, 1) := by decide +kernel
theorem dX0_topTwo_25 : decode cX0_topTwo 25 = .ok (.ladd, 1) := by decide +kernel
theorem dX0_topTwo_26 : decode cX0_topTwo 26 = .ok (.lreturn, 1) := by decide +kernel
theorem dX0_takeAway_0 : decode cX0_takeAway 0 = .ok (.lconst 0, 1) := by decide +kernel
theorem dX0_takeAway_1 : decode cX0_takeAway 1 = .ok (.lstore 5, 2) := by decide +kernel
theorem dX0_takeAway_3 : decode cX0_takeAway 3 = .ok (.iconst 0, 1) := by decide +kernel
theorem dX0_takeAway_4 : decode cX0_takeAway 4 = .ok (.istore 7, 2) := by decide +kernel
theorem dX0_takeAway_6 : decode cX0_takeAway 6 = .ok (.iload 7, 2) := by decide +kernel
theorem dX0_takeAway_8 : decode cX0_takeAway 8 = .ok (.aload_n 1, 1) := by decide +kernel
theorem dX0_takeAway_9 : decode cX0_takeAway 9 = .ok (.getfield 19, 3) := by decide +kernel
theorem dX0_takeAway_12 : decode cX0_takeAway 12 = .ok (.if_icmp .ge 72, 3) := by decide +kernel
theorem dX0_takeAway_15 : decode cX0_takeAway 15 = .ok (.iload 4, 2) := by decide +kernel
theorem dX0_takeAway_17 : decode cX0_takeAway 17 = .ok (.iload 7, 2) := by decide +kernel
theorem dX0_takeAway_19 : decode cX0_takeAway 19 = .ok (.iadd, 1) := by decide +kernel
theorem dX0_takeAway_20 : decode cX0_takeAway 20 = .ok (.aload_n 0, 1) := by decide +kernel
theorem dX0_takeAway_21 : decode cX0_takeAway 21 = .ok (.getfield 19, 3) := by decide +kernel
theorem dX0_takeAway_24 : decode cX0_takeAway 24 = .ok (.if_icmp .ge 60, 3) := by decide +kernel
theorem dX0_takeAway_27 : decode cX0_takeAway 27 = .ok (.lload 5, 2) := by decide +kernel
theorem dX0_takeAway_29 : decode cX0_takeAway 29 = .ok (.aload_n 0, 1) := by decide +kernel
theorem dX0_takeAway_30 : decode cX0_takeAway 30 = .ok (.getfield 13, 3) := by decide +kernel
theorem dX0_takeAway_33 : decode cX0_takeAway 33 = .ok (.iload 4, 2) := by decide +kernel
theorem dX0_takeAway_35 : decode cX0_takeAway 35 = .ok (.iload 7, 2) := by decide +kernel
theorem dX0_takeAway_37 : decode cX0_takeAway 37 = .ok (.iadd, 1) := by decide +kernel
theorem dX0_takeAway_38 : decode cX0_takeAway 38 = .ok (.iaload, 1) := by decide +kernel
theorem dX0_takeAway_39 : decode cX0_takeAway 39 = .ok (.i2l, 1) := by decide +kernel
theorem dX0_takeAway_40 : decode cX0_takeAway 40 = .ok (.lload_n 2, 1) := by decide +kernel
theorem dX0_takeAway_41 : decode cX0_takeAway 41 = .ok (.aload_n 1, 1) := by decide +kernel
theorem dX0_takeAway_42 : decode cX0_takeAway 42 = .ok (.getfield 13, 3) := by decide +kernel
theorem dX0_takeAway_45 : decode cX0_takeAway 45 = .ok (.iload 7, 2) := by decide +kernel
theorem dX0_takeAway_47 : decode cX0_takeAway 47 = .ok (.iaload, 1) := by decide +kernel
theorem dX0_takeAway_48 : decode cX0_takeAway 48 = .ok (.i2l, 1) := by decide +kernel
theorem dX0_takeAway_49 : decode cX0_takeAway 49 = .ok (.lmul, 1) := by decide +kernel
theorem dX0_takeAway_50 : decode cX0_takeAway 50 = .ok (.lsub, 1) := by decide +kernel
theorem dX0_takeAway_51 : decode cX0_takeAway 51 = .ok (.ladd, 1) := by decide +kernel
theorem dX0_takeAway_52 : decode cX0_takeAway 52 = .ok (.lstore 5, 2) := by decide +kernel
theorem dX0_takeAway_54 : decode cX0_takeAway 54 = .ok (.aload_n 0, 1) := by decide +kernel
theorem dX0_takeAway_55 : decode cX0_takeAway 55 = .ok (.getfield 13, 3) := by decide +kernel
theorem dX0_takeAway_58 : decode cX0_takeAway 58 = .ok (.iload 4, 2) := by decide +kernel
theorem dX0_takeAway_60 : decode cX0_takeAway 60 = .ok (.iload 7, 2) := by decide +kernel
theorem dX0_takeAway_62 : decode cX0_takeAway 62 = .ok (.iadd, 1) := by decide +kernel
theorem dX0_takeAway_63 : decode cX0_takeAway 63 = .ok (.lload 5, 2) := by decide +kernel
theorem dX0_takeAway_65 : decode cX0_takeAway 65 = .ok (.ldc2_w 23, 3) := by decide +kernel
theorem dX0_takeAway_68 : decode cX0_takeAway 68 = .ok (.land, 1) := by decide +kernel
theorem dX0_takeAway_69 : decode cX0_takeAway 69 = .ok (.l2i, 1) := by decide +kernel
theorem dX0_takeAway_70 : decode cX0_takeAway 70 = .ok (.iastore, 1) := by decide +kernel
theorem dX0_takeAway_71 : decode cX0_takeAway 71 = .ok (.lload 5, 2) := by decide +kernel
theorem dX0_takeAway_73 : decode cX0_takeAway 73 = .ok (.bipush 30, 2) := by decide +kernel
theorem dX0_takeAway_75 : decode cX0_takeAway 75 = .ok (.lshr, 1) := by decide +kernel
theorem dX0_takeAway_76 : decode cX0_takeAway 76 = .ok (.lstore 5, 2) := by decide +kernel
theorem dX0_takeAway_78 : decode cX0_takeAway 78 = .ok (.iinc 7 1, 3) := by decide +kernel
theorem dX0_takeAway_81 : decode cX0_takeAway 81 = .ok (.goto (-75), 3) := by decide +kernel
theorem dX0_takeAway_84 : decode cX0_takeAway 84 = .ok (.iload 4, 2) := by decide +kernel
theorem dX0_takeAway_86 : decode cX0_takeAway 86 = .ok (.aload_n 1, 1) := by decide +kernel
theorem dX0_takeAway_87 : decode cX0_takeAway 87 = .ok (.getfield 19, 3) := by decide +kernel
theorem dX0_takeAway_90 : decode cX0_takeAway 90 = .ok (.iadd, 1) := by decide +kernel
theorem dX0_takeAway_91 : decode cX0_takeAway 91 = .ok (.istore 7, 2) := by decide +kernel
theorem dX0_takeAway_93 : decode cX0_takeAway 93 = .ok (.iload 7, 2) := by decide +kernel
theorem dX0_takeAway_95 : decode cX0_takeAway 95 = .ok (.aload_n 0, 1) := by decide +kernel
theorem dX0_takeAway_96 : decode cX0_takeAway 96 = .ok (.getfield 19, 3) := by decide +kernel
theorem dX0_takeAway_99 : decode cX0_takeAway 99 = .ok (.if_icmp .ge 50, 3) := by decide +kernel
theorem dX0_takeAway_102 : decode cX0_takeAway 102 = .ok (.lload 5, 2) := by decide +kernel
theorem dX0_takeAway_104 : decode cX0_takeAway 104 = .ok (.lconst 0, 1) := by decide +kernel
theorem dX0_takeAway_105 : decode cX0_takeAway 105 = .ok (.lcmp, 1) := by decide +kernel
theorem dX0_takeAway_106 : decode cX0_takeAway 106 = .ok (.ifCond .eq 43, 3) := by decide +kernel
theorem dX0_takeAway_109 : decode cX0_takeAway 109 = .ok (.lload 5, 2) := by decide +kernel
theorem dX0_takeAway_111 : decode cX0_takeAway 111 = .ok (.aload_n 0, 1) := by decide +kernel
theorem dX0_takeAway_112 : decode cX0_takeAway 112 = .ok (.getfield 13, 3) := by decide +kernel
theorem dX0_takeAway_115 : decode cX0_takeAway 115 = .ok (.iload 7, 2) := by decide +kernel
theorem dX0_takeAway_117 : decode cX0_takeAway 117 = .ok (.iaload, 1) := by decide +kernel
theorem dX0_takeAway_118 : decode cX0_takeAway 118 = .ok (.i2l, 1) := by decide +kernel
theorem dX0_takeAway_119 : decode cX0_takeAway 119 = .ok (.ladd, 1) := by decide +kernel
theorem dX0_takeAway_120 : decode cX0_takeAway 120 = .ok (.lstore 5, 2) := by decide +kernel
theorem dX0_takeAway_122 : decode cX0_takeAway 122 = .ok (.aload_n 0, 1) := by decide +kernel
theorem dX0_takeAway_123 : decode cX0_takeAway 123 = .ok (.getfield 13, 3) := by decide +kernel
theorem dX0_takeAway_126 : decode cX0_takeAway 126 = .ok (.iload 7, 2) := by decide +kernel
theorem dX0_takeAway_128 : decode cX0_takeAway 128 = .ok (.lload 5, 2) := by decide +kernel
theorem dX0_takeAway_130 : decode cX0_takeAway 130 = .ok (.ldc2_w 23, 3) := by decide +kernel
theorem dX0_takeAway_133 : decode cX0_takeAway 133 = .ok (.land, 1) := by decide +kernel
theorem dX0_takeAway_134 : decode cX0_takeAway 134 = .ok (.l2i, 1) := by decide +kernel
theorem dX0_takeAway_135 : decode cX0_takeAway 135 = .ok (.iastore, 1) := by decide +kernel
theorem dX0_takeAway_136 : decode cX0_takeAway 136 = .ok (.lload 5, 2) := by decide +kernel
theorem dX0_takeAway_138 : decode cX0_takeAway 138 = .ok (.bipush 30, 2) := by decide +kernel
theorem dX0_takeAway_140 : decode cX0_takeAway 140 = .ok (.lshr, 1) := by decide +kernel
theorem dX0_takeAway_141 : decode cX0_takeAway 141 = .ok (.lstore 5, 2) := by decide +kernel
theorem dX0_takeAway_143 : decode cX0_takeAway 143 = .ok (.iinc 7 1, 3) := by decide +kernel
theorem dX0_takeAway_146 : decode cX0_takeAway 146 = .ok (.goto (-53), 3) := by decide +kernel
theorem dX0_takeAway_149 : decode cX0_takeAway 149 = .ok (.aload_n 0, 1) := by decide +kernel
theorem dX0_takeAway_150 : decode cX0_takeAway 150 = .ok (.invokevirtual 42, 3) := by decide +kernel
theorem dX0_takeAway_153 : decode cX0_takeAway 153 = .ok (.return_, 1) := by decide +kernel
theorem dX0_raise_0 : decode cX0_raise 0 = .ok (.aload_n 0, 1) := by decide +kernel
theorem dX0_raise_1 : decode cX0_raise 1 = .ok (.aload_n 0, 1) := by decide +kernel
theorem dX0_raise_2 : decode cX0_raise 2 = .ok (.getfield 19, 3) := by decide +kernel
theorem dX0_raise_5 : decode cX0_raise 5 = .ok (.iload_n 2, 1) := by decide +kernel
theorem dX0_raise_6 : decode cX0_raise 6 = .ok (.iconst 1, 1) := by decide +kernel
theorem dX0_raise_7 : decode cX0_raise 7 = .ok (.iadd, 1) := by decide +kernel
theorem dX0_raise_8 : decode cX0_raise 8 = .ok (.invokestatic 7, 3) := by decide +kernel
theorem dX0_raise_11 : decode cX0_raise 11 = .ok (.iconst 1, 1) := by decide +kernel
theorem dX0_raise_12 : decode cX0_raise 12 = .ok (.iadd, 1) := by decide +kernel
theorem dX0_raise_13 : decode cX0_raise 13 = .ok (.invokevirtual 38, 3) := by decide +kernel
theorem dX0_raise_16 : decode cX0_raise 16 = .ok (.iload_n 1, 1) := by decide +kernel
theorem dX0_raise_17 : decode cX0_raise 17 = .ok (.istore_n 3, 1) := by decide +kernel
theorem dX0_raise_18 : decode cX0_raise 18 = .ok (.iload_n 2, 1) := by decide +kernel
theorem dX0_raise_19 : decode cX0_raise 19 = .ok (.istore 4, 2) := by decide +kernel
theorem dX0_raise_21 : decode cX0_raise 21 = .ok (.iload 4, 2) := by decide +kernel
theorem dX0_raise_23 : decode cX0_raise 23 = .ok (.aload_n 0, 1) := by decide +kernel
theorem dX0_raise_24 : decode cX0_raise 24 = .ok (.getfield 19, 3) := by decide +kernel
theorem dX0_raise_27 : decode cX0_raise 27 = .ok (.if_icmp .ge 39, 3) := by decide +kernel
theorem dX0_raise_30 : decode cX0_raise 30 = .ok (.iload_n 3, 1) := by decide +kernel
theorem dX0_raise_31 : decode cX0_raise 31 = .ok (.ifCond .le 35, 3) := by decide +kernel
theorem dX0_raise_34 : decode cX0_raise 34 = .ok (.iload_n 3, 1) := by decide +kernel
theorem dX0_raise_35 : decode cX0_raise 35 = .ok (.aload_n 0, 1) := by decide +kernel
theorem dX0_raise_36 : decode cX0_raise 36 = .ok (.getfield 13, 3) := by decide +kernel
theorem dX0_raise_39 : decode cX0_raise 39 = .ok (.iload 4, 2) := by decide +kernel
theorem dX0_raise_41 : decode cX0_raise 41 = .ok (.iaload, 1) := by decide +kernel
theorem dX0_raise_42 : decode cX0_raise 42 = .ok (.iadd, 1) := by decide +kernel
theorem dX0_raise_43 : decode cX0_raise 43 = .ok (.istore_n 3, 1) := by decide +kernel
theorem dX0_raise_44 : decode cX0_raise 44 = .ok (.aload_n 0, 1) := by decide +kernel
theorem dX0_raise_45 : decode cX0_raise 45 = .ok (.getfield 13, 3) := by decide +kernel
theorem dX0_raise_48 : decode cX0_raise 48 = .ok (.iload 4, 2) := by decide +kernel
theorem dX0_raise_50 : decode cX0_raise 50 = .ok (.iload_n 3, 1) := by decide +kernel
theorem dX0_raise_51 : decode cX0_raise 51 = .ok (.ldc 41, 2) := by decide +kernel
theorem dX0_raise_53 : decode cX0_raise 53 = .ok (.iand, 1) := by decide +kernel
theorem dX0_raise_54 : decode cX0_raise 54 = .ok (.iastore, 1) := by decide +kernel
theorem dX0_raise_55 : decode cX0_raise 55 = .ok (.iload_n 3, 1) := by decide +kernel
theorem dX0_raise_56 : decode cX0_raise 56 = .ok (.bipush 30, 2) := by decide +kernel
theorem dX0_raise_58 : decode cX0_raise 58 = .ok (.ishr, 1) := by decide +kernel
theorem dX0_raise_59 : decode cX0_raise 59 = .ok (.istore_n 3, 1) := by decide +kernel
theorem dX0_raise_60 : decode cX0_raise 60 = .ok (.iinc 4 1, 3) := by decide +kernel
theorem dX0_raise_63 : decode cX0_raise 63 = .ok (.goto (-42), 3) := by decide +kernel
theorem dX0_raise_66 : decode cX0_raise 66 = .ok (.aload_n 0, 1) := by decide +kernel
theorem dX0_raise_67 : decode cX0_raise 67 = .ok (.invokevirtual 42, 3) := by decide +kernel
theorem dX0_raise_70 : decode cX0_raise 70 = .ok (.return_, 1) := by decide +kernel
theorem dX1_init_0 : decode cX1_init 0 = .ok (.aload_n 0, 1) := by decide +kernel
theorem dX1_init_1 : decode cX1_init 1 = .ok (.invokespecial 3, 3) := by decide +kernel
theorem dX1_init_4 : decode cX1_init 4 = .ok (.aload_n 0, 1) := by decide +kernel
theorem dX1_init_5 : decode cX1_init 5 = .ok (.bipush 126, 2) := by decide +kernel
theorem dX1_init_7 : decode cX1_init 7 = .ok (.anewarray 9, 3) := by decide +kernel
theorem dX1_init_10 : decode cX1_init 10 = .ok (.putfield 11, 3) := by decide +kernel
theorem dX1_init_13 : decode cX1_init 13 = .ok (.aload_n 0, 1) := by decide +kernel
theorem dX1_init_14 : decode cX1_init 14 = .ok (.bipush 10, 2) := by decide +kernel
theorem dX1_init_16 : decode cX1_init 16 = .ok (.anewarray 9, 3) := by decide +kernel
theorem dX1_init_19 : decode cX1_init 19 = .ok (.putfield 17, 3) := by decide +kernel
theorem dX1_init_22 : decode cX1_init 22 = .ok (.aload_n 0, 1) := by decide +kernel
theorem dX1_init_23 : decode cX1_init 23 = .ok (.new 9, 3) := by decide +kernel
theorem dX1_init_26 : decode cX1_init 26 = .ok (.dup, 1) := by decide +kernel
theorem dX1_init_27 : decode cX1_init 27 = .ok (.iconst 5, 1) := by decide +kernel
theorem dX1_init_28 : decode cX1_init 28 = .ok (.invokespecial 20, 3) := by decide +kernel
theorem dX1_init_31 : decode cX1_init 31 = .ok (.putfield 23, 3) := by decide +kernel
theorem dX1_init_34 : decode cX1_init 34 = .ok (.aload_n 0, 1) := by decide +kernel
theorem dX1_init_35 : decode cX1_init 35 = .ok (.bipush 6, 2) := by decide +kernel
theorem dX1_init_37 : decode cX1_init 37 = .ok (.newarray .int, 2) := by decide +kernel
theorem dX1_init_39 : decode cX1_init 39 = .ok (.putfield 27, 3) := by decide +kernel
theorem dX1_init_42 : decode cX1_init 42 = .ok (.iconst 0, 1) := by decide +kernel
theorem dX1_init_43 : decode cX1_init 43 = .ok (.istore_n 1, 1) := by decide +kernel
theorem dX1_init_44 : decode cX1_init 44 = .ok (.iload_n 1, 1) := by decide +kernel
theorem dX1_init_45 : decode cX1_init 45 = .ok (.aload_n 0, 1) := by decide +kernel
theorem dX1_init_46 : decode cX1_init 46 = .ok (.getfield 11, 3) := by decide +kernel
theorem dX1_init_49 : decode cX1_init 49 = .ok (.arraylength, 1) := by decide +kernel
theorem dX1_init_50 : decode cX1_init 50 = .ok (.if_icmp .ge 23, 3) := by decide +kernel
theorem dX1_init_53 : decode cX1_init 53 = .ok (.aload_n 0, 1) := by decide +kernel
theorem dX1_init_54 : decode cX1_init 54 = .ok (.getfield 11, 3) := by decide +kernel
theorem dX1_init_57 : decode cX1_init 57 = .ok (.iload_n 1, 1) := by decide +kernel
theorem dX1_init_58 : decode cX1_init 58 = .ok (.new 9, 3) := by decide +kernel
theorem dX1_init_61 : decode cX1_init 61 = .ok (.dup, 1) := by decide +kernel
theorem dX1_init_62 : decode cX1_init 62 = .ok (.iconst 5, 1) := by decide +kernel
theorem dX1_init_63 : decode cX1_init 63 = .ok (.invokespecial 20, 3) := by decide +kernel
theorem dX1_init_66 : decode cX1_init 66 = .ok (.aastore, 1) := by decide +kernel
theorem dX1_init_67 : decode cX1_init 67 = .ok (.iinc 1 1, 3) := by decide +kernel
theorem dX1_init_70 : decode cX1_init 70 = .ok (.goto (-26), 3) := by decide +kernel
theorem dX1_init_73 : decode cX1_init 73 = .ok (.iconst 0, 1) := by decide +kernel
theorem dX1_init_74 : decode cX1_init 74 = .ok (.istore_n 1, 1) := by decide +kernel
theorem dX1_init_75 : decode cX1_init 75 = .ok (.iload_n 1, 1) := by decide +kernel
theorem dX1_init_76 : decode cX1_init 76 = .ok (.aload_n 0, 1) := by decide +kernel
theorem dX1_init_77 : decode cX1_init 77 = .ok (.getfield 17, 3) := by decide +kernel
theorem dX1_init_80 : decode cX1_init 80 = .ok (.arraylength, 1) := by decide +kernel
theorem dX1_init_81 : decode cX1_init 81 = .ok (.if_icmp .ge 23, 3) := by decide +kernel
theorem dX1_init_84 : decode cX1_init 84 = .ok (.aload_n 0, 1) := by decide +kernel
theorem dX1_init_85 : decode cX1_init 85 = .ok (.getfield 17, 3) := by decide +kernel
theorem dX1_init_88 : decode cX1_init 88 = .ok (.iload_n 1, 1) := by decide +kernel
theorem dX1_init_89 : decode cX1_init 89 = .ok (.new 9, 3) := by decide +kernel
theorem dX1_init_92 : decode cX1_init 92 = .ok (.dup, 1) := by decide +kernel
theorem dX1_init_93 : decode cX1_init 93 = .ok (.iconst 5, 1) := by decide +kernel
theorem dX1_init_94 : decode cX1_init 94 = .ok (.invokespecial 20, 3) := by decide +kernel
theorem dX1_init_97 : decode cX1_init 97 = .ok (.aastore, 1) := by decide +kernel
theorem dX1_init_98 : decode cX1_init 98 = .ok (.iinc 1 1, 3) := by decide +kernel
theorem dX1_init_101 : decode cX1_init 101 = .ok (.goto (-26), 3) := by decide +kernel
theorem dX1_init_104 : decode cX1_init 104 = .ok (.return_, 1) := by decide +kernel
theorem dX1_of_0 : decode cX1_of 0 = .ok (.aload_n 0, 1) := by decide +kernel
theorem dX1_of_1 : decode cX1_of 1 = .ok (.getfield 11, 3) := by decide +kernel
theorem dX1_of_4 : decode cX1_of 4 = .ok (.iload_n 1, 1) := by decide +kernel
theorem dX1_of_5 : decode cX1_of 5 = .ok (.bipush 21, 2) := by decide +kernel
theorem dX1_of_7 : decode cX1_of 7 = .ok (.imul, 1) := by decide +kernel
theorem dX1_of_8 : decode cX1_of 8 = .ok (.iload_n 2, 1) := by decide +kernel
theorem dX1_of_9 : decode cX1_of 9 = .ok (.iadd, 1) := by decide +kernel
theorem dX1_of_10 : decode cX1_of 10 = .ok (.aaload, 1) := by decide +kernel
theorem dX1_of_11 : decode cX1_of 11 = .ok (.areturn, 1) := by decide +kernel
theorem dX1_refresh_0 : decode cX1_refresh 0 = .ok (.iconst 0, 1) := by decide +kernel
theorem dX1_refresh_1 : decode cX1_refresh 1 = .ok (.istore_n 2, 1) := by decide +kernel
theorem dX1_refresh_2 : decode cX1_refresh 2 = .ok (.iload_n 2, 1) := by decide +kernel
theorem dX1_refresh_3 : decode cX1_refresh 3 = .ok (.aload_n 1, 1) := by decide +kernel
theorem dX1_refresh_4 : decode cX1_refresh 4 = .ok (.getfield 31, 3) := by decide +kernel
theorem dX1_refresh_7 : decode cX1_refresh 7 = .ok (.if_icmp .ge 83, 3) := by decide +kernel
theorem dX1_refresh_10 : decode cX1_refresh 10 = .ok (.aload_n 1, 1) := by decide +kernel
theorem dX1_refresh_11 : decode cX1_refresh 11 = .ok (.getfield 37, 3) := by decide +kernel
theorem dX1_refresh_14 : decode cX1_refresh 14 = .ok (.iload_n 2, 1) := by decide +kernel
theorem dX1_refresh_15 : decode cX1_refresh 15 = .ok (.aaload, 1) := by decide +kernel
theorem dX1_refresh_16 : decode cX1_refresh 16 = .ok (.astore_n 3, 1) := by decide +kernel
theorem dX1_refresh_17 : decode cX1_refresh 17 = .ok (.aload_n 1, 1) := by decide +kernel
theorem dX1_refresh_18 : decode cX1_refresh 18 = .ok (.getfield 41, 3) := by decide +kernel
theorem dX1_refresh_21 : decode cX1_refresh 21 = .ok (.aload_n 3, 1) := by decide +kernel
theorem dX1_refresh_22 : decode cX1_refresh 22 = .ok (.iconst 1, 1) := by decide +kernel
theorem dX1_refresh_23 : decode cX1_refresh 23 = .ok (.iaload, 1) := by decide +kernel
theorem dX1_refresh_24 : decode cX1_refresh 24 = .ok (.aaload, 1) := by decide +kernel
theorem dX1_refresh_25 : decode cX1_refresh 25 = .ok (.iconst 1, 1) := by decide +kernel
theorem dX1_refresh_26 : decode cX1_refresh 26 = .ok (.iaload, 1) := by decide +kernel
theorem dX1_refresh_27 : decode cX1_refresh 27 = .ok (.istore 4, 2) := by decide +kernel
theorem dX1_refresh_29 : decode cX1_refresh 29 = .ok (.sipush 10000, 3) := by decide +kernel
theorem dX1_refresh_32 : decode cX1_refresh 32 = .ok (.sipush 1000, 3) := by decide +kernel
theorem dX1_refresh_35 : decode cX1_refresh 35 = .ok (.aload_n 3, 1) := by decide +kernel
theorem dX1_refresh_36 : decode cX1_refresh 36 = .ok (.iconst 2, 1) := by decide +kernel
theorem dX1_refresh_37 : decode cX1_refresh 37 = .ok (.iaload, 1) := by decide +kernel
theorem dX1_refresh_38 : decode cX1_refresh 38 = .ok (.imul, 1) := by decide +kernel
theorem dX1_refresh_39 : decode cX1_refresh 39 = .ok (.iadd, 1) := by decide +kernel
theorem dX1_refresh_40 : decode cX1_refresh 40 = .ok (.bipush 10, 2) := by decide +kernel
theorem dX1_refresh_42 : decode cX1_refresh 42 = .ok (.aload_n 3, 1) := by decide +kernel
theorem dX1_refresh_43 : decode cX1_refresh 43 = .ok (.iconst 3, 1) := by decide +kernel
theorem dX1_refresh_44 : decode cX1_refresh 44 = .ok (.iaload, 1) := by decide +kernel
theorem dX1_refresh_45 : decode cX1_refresh 45 = .ok (.imul, 1) := by decide +kernel
theorem dX1_refresh_46 : decode cX1_refresh 46 = .ok (.iadd, 1) := by decide +kernel
theorem dX1_refresh_47 : decode cX1_refresh 47 = .ok (.iload 4, 2) := by decide +kernel
theorem dX1_refresh_49 : decode cX1_refresh 49 = .ok (.iadd, 1) := by decide +kernel
theorem dX1_refresh_50 : decode cX1_refresh 50 = .ok (.istore 5, 2) := by decide +kernel
theorem dX1_refresh_52 : decode cX1_refresh 52 = .ok (.aload_n 0, 1) := by decide +kernel
theorem dX1_refresh_53 : decode cX1_refresh 53 = .ok (.getfield 27, 3) := by decide +kernel
theorem dX1_refresh_56 : decode cX1_refresh 56 = .ok (.iload_n 2, 1) := by decide +kernel
theorem dX1_refresh_57 : decode cX1_refresh 57 = .ok (.iaload, 1) := by decide +kernel
theorem dX1_refresh_58 : decode cX1_refresh 58 = .ok (.iload 5, 2) := by decide +kernel
theorem dX1_refresh_60 : decode cX1_refresh 60 = .ok (.if_icmp .eq 24, 3) := by decide +kernel
theorem dX1_refresh_63 : decode cX1_refresh 63 = .ok (.aload_n 0, 1) := by decide +kernel
theorem dX1_refresh_64 : decode cX1_refresh 64 = .ok (.getfield 27, 3) := by decide +kernel
theorem dX1_refresh_67 : decode cX1_refresh 67 = .ok (.iload_n 2, 1) := by decide +kernel
theorem dX1_refresh_68 : decode cX1_refresh 68 = .ok (.iload 5, 2) := by decide +kernel
theorem dX1_refresh_70 : decode cX1_refresh 70 = .ok (.iastore, 1) := by decide +kernel
theorem dX1_refresh_71 : decode cX1_refresh 71 = .ok (.aload_n 0, 1) := by decide +kernel
theorem dX1_refresh_72 : decode cX1_refresh 72 = .ok (.iload_n 2, 1) := by decide +kernel
theorem dX1_refresh_73 : decode cX1_refresh 73 = .ok (.aload_n 3, 1) := by decide +kernel
theorem dX1_refresh_74 : decode cX1_refresh 74 = .ok (.iconst 2, 1) := by decide +kernel
theorem dX1_refresh_75 : decode cX1_refresh 75 = .ok (.iaload, 1) := by decide +kernel
theorem dX1_refresh_76 : decode cX1_refresh 76 = .ok (.aload_n 3, 1) := by decide +kernel
theorem dX1_refresh_77 : decode cX1_refresh 77 = .ok (.iconst 3, 1) := by decide +kernel
theorem dX1_refresh_78 : decode cX1_refresh 78 = .ok (.iaload, 1) := by decide +kernel
theorem dX1_refresh_79 : decode cX1_refresh 79 = .ok (.iload 4, 2) := by decide +kernel
theorem dX1_refresh_81 : decode cX1_refresh 81 = .ok (.invokevirtual 44, 3) := by decide +kernel
theorem dX1_refresh_84 : decode cX1_refresh 84 = .ok (.iinc 2 1, 3) := by decide +kernel
theorem dX1_refresh_87 : decode cX1_refresh 87 = .ok (.goto (-85), 3) := by decide +kernel
theorem dX1_refresh_90 : decode cX1_refresh 90 = .ok (.return_, 1) := by decide +kernel
theorem dX1_weighSign_0 : decode cX1_weighSign 0 = .ok (.aload_n 0, 1) := by decide +kernel
theorem dX1_weighSign_1 : decode cX1_weighSign 1 = .ok (.iload_n 2, 1) := by decide +kernel
theorem dX1_weighSign_2 : decode cX1_weighSign 2 = .ok (.iload 4, 2) := by decide +kernel
theorem dX1_weighSign_4 : decode cX1_weighSign 4 = .ok (.invokevirtual 48, 3) := by decide +kernel
theorem dX1_weighSign_7 : decode cX1_weighSign 7 = .ok (.iconst 0, 1) := by decide +kernel
theorem dX1_weighSign_8 : decode cX1_weighSign 8 = .ok (.istore 5, 2) := by decide +kernel
theorem dX1_weighSign_10 : decode cX1_weighSign 10 = .ok (.iload 5, 2) := by decide +kernel
theorem dX1_weighSign_12 : decode cX1_weighSign 12 = .ok (.bipush 20, 2) := by decide +kernel
theorem dX1_weighSign_14 : decode cX1_weighSign 14 = .ok (.if_icmp .gt 123, 3) := by decide +kernel
theorem dX1_weighSign_17 : decode cX1_weighSign 17 = .ok (.aload_n 0, 1) := by decide +kernel
theorem dX1_weighSign_18 : decode cX1_weighSign 18 = .ok (.iload_n 1, 1) := by decide +kernel
theorem dX1_weighSign_19 : decode cX1_weighSign 19 = .ok (.iload 5, 2) := by decide +kernel
theorem dX1_weighSign_21 : decode cX1_weighSign 21 = .ok (.invokevirtual 52, 3) := by decide +kernel
theorem dX1_weighSign_24 : decode cX1_weighSign 24 = .ok (.astore 6, 2) := by decide +kernel
theorem dX1_weighSign_26 : decode cX1_weighSign 26 = .ok (.aload 6, 2) := by decide +kernel
theorem dX1_weighSign_28 : decode cX1_weighSign 28 = .ok (.aload_n 0, 1) := by decide +kernel
theorem dX1_weighSign_29 : decode cX1_weighSign 29 = .ok (.getfield 17, 3) := by decide +kernel
theorem dX1_weighSign_32 : decode cX1_weighSign 32 = .ok (.iload_n 2, 1) := by decide +kernel
theorem dX1_weighSign_33 : decode cX1_weighSign 33 = .ok (.aaload, 1) := by decide +kernel
theorem dX1_weighSign_34 : decode cX1_weighSign 34 = .ok (.invokevirtual 56, 3) := by decide +kernel
theorem dX1_weighSign_37 : decode cX1_weighSign 37 = .ok (.aload 6, 2) := by decide +kernel
theorem dX1_weighSign_39 : decode cX1_weighSign 39 = .ok (.bipush 10, 2) := by decide +kernel
theorem dX1_weighSign_41 : decode cX1_weighSign 41 = .ok (.bipush 20, 2) := by decide +kernel
theorem dX1_weighSign_43 : decode cX1_weighSign 43 = .ok (.iload 5, 2) := by decide +kernel
theorem dX1_weighSign_45 : decode cX1_weighSign 45 = .ok (.isub, 1) := by decide +kernel
theorem dX1_weighSign_46 : decode cX1_weighSign 46 = .ok (.invokevirtual 60, 3) := by decide +kernel
theorem dX1_weighSign_49 : decode cX1_weighSign 49 = .ok (.iload_n 2, 1) := by decide +kernel
theorem dX1_weighSign_50 : decode cX1_weighSign 50 = .ok (.istore 7, 2) := by decide +kernel
theorem dX1_weighSign_52 : decode cX1_weighSign 52 = .ok (.iload 7, 2) := by decide +kernel
theorem dX1_weighSign_54 : decode cX1_weighSign 54 = .ok (.ifCond .le 64, 3) := by decide +kernel
theorem dX1_weighSign_57 : decode cX1_weighSign 57 = .ok (.aload_n 0, 1) := by decide +kernel
theorem dX1_weighSign_58 : decode cX1_weighSign 58 = .ok (.getfield 23, 3) := by decide +kernel
theorem dX1_weighSign_61 : decode cX1_weighSign 61 = .ok (.aload_n 0, 1) := by decide +kernel
theorem dX1_weighSign_62 : decode cX1_weighSign 62 = .ok (.getfield 17, 3) := by decide +kernel
theorem dX1_weighSign_65 : decode cX1_weighSign 65 = .ok (.iload 7, 2) := by decide +kernel
theorem dX1_weighSign_67 : decode cX1_weighSign 67 = .ok (.iconst 1, 1) := by decide +kernel
theorem dX1_weighSign_68 : decode cX1_weighSign 68 = .ok (.isub, 1) := by decide +kernel
theorem dX1_weighSign_69 : decode cX1_weighSign 69 = .ok (.aaload, 1) := by decide +kernel
theorem dX1_weighSign_70 : decode cX1_weighSign 70 = .ok (.invokevirtual 56, 3) := by decide +kernel
theorem dX1_weighSign_73 : decode cX1_weighSign 73 = .ok (.aload_n 0, 1) := by decide +kernel
theorem dX1_weighSign_74 : decode cX1_weighSign 74 = .ok (.getfield 23, 3) := by decide +kernel
theorem dX1_weighSign_77 : decode cX1_weighSign 77 = .ok (.bipush 10, 2) := by decide +kernel
theorem dX1_weighSign_79 : decode cX1_weighSign 79 = .ok (.iload_n 3, 1) := by decide +kernel
theorem dX1_weighSign_80 : decode cX1_weighSign 80 = .ok (.imul, 1) := by decide +kernel
theorem dX1_weighSign_81 : decode cX1_weighSign 81 = .ok (.invokevirtual 63, 3) := by decide +kernel
theorem dX1_weighSign_84 : decode cX1_weighSign 84 = .ok (.aload_n 0, 1) := by decide +kernel
theorem dX1_weighSign_85 : decode cX1_weighSign 85 = .ok (.getfield 17, 3) := by decide +kernel
theorem dX1_weighSign_88 : decode cX1_weighSign 88 = .ok (.iload 7, 2) := by decide +kernel
theorem dX1_weighSign_90 : decode cX1_weighSign 90 = .ok (.aaload, 1) := by decide +kernel
theorem dX1_weighSign_91 : decode cX1_weighSign 91 = .ok (.bipush 10, 2) := by decide +kernel
theorem dX1_weighSign_93 : decode cX1_weighSign 93 = .ok (.iload_n 3, 1) := by decide +kernel
theorem dX1_weighSign_94 : decode cX1_weighSign 94 = .ok (.isub, 1) := by decide +kernel
theorem dX1_weighSign_95 : decode cX1_weighSign 95 = .ok (.invokevirtual 63, 3) := by decide +kernel
theorem dX1_weighSign_98 : decode cX1_weighSign 98 = .ok (.aload_n 0, 1) := by decide +kernel
theorem dX1_weighSign_99 : decode cX1_weighSign 99 = .ok (.getfield 17, 3) := by decide +kernel
theorem dX1_weighSign_102 : decode cX1_weighSign 102 = .ok (.iload 7, 2) := by decide +kernel
theorem dX1_weighSign_104 : decode cX1_weighSign 104 = .ok (.aaload, 1) := by decide +kernel
theorem dX1_weighSign_105 : decode cX1_weighSign 105 = .ok (.aload_n 0, 1) := by decide +kernel
theorem dX1_weighSign_106 : decode cX1_weighSign 106 = .ok (.getfield 23, 3) := by decide +kernel
theorem dX1_weighSign_109 : decode cX1_weighSign 109 = .ok (.invokevirtual 66, 3) := by decide +kernel
theorem dX1_weighSign_112 : decode cX1_weighSign 112 = .ok (.iinc 7 (-1), 3) := by decide +kernel
theorem dX1_weighSign_115 : decode cX1_weighSign 115 = .ok (.goto (-63), 3) := by decide +kernel
theorem dX1_weighSign_118 : decode cX1_weighSign 118 = .ok (.aload_n 0, 1) := by decide +kernel
theorem dX1_weighSign_119 : decode cX1_weighSign 119 = .ok (.getfield 17, 3) := by decide +kernel
theorem dX1_weighSign_122 : decode cX1_weighSign 122 = .ok (.iconst 0, 1) := by decide +kernel
theorem dX1_weighSign_123 : decode cX1_weighSign 123 = .ok (.aaload, 1) := by decide +kernel
theorem dX1_weighSign_124 : decode cX1_weighSign 124 = .ok (.bipush 10, 2) := by decide +kernel
theorem dX1_weighSign_126 : decode cX1_weighSign 126 = .ok (.iload_n 3, 1) := by decide +kernel
theorem dX1_weighSign_127 : decode cX1_weighSign 127 = .ok (.isub, 1) := by decide +kernel
theorem dX1_weighSign_128 : decode cX1_weighSign 128 = .ok (.invokevirtual 63, 3) := by decide +kernel
theorem dX1_weighSign_131 : decode cX1_weighSign 131 = .ok (.iinc 5 1, 3) := by decide +kernel
theorem dX1_weighSign_134 : decode cX1_weighSign 134 = .ok (.goto (-124), 3) := by decide +kernel
theorem dX1_weighSign_137 : decode cX1_weighSign 137 = .ok (.return_, 1) := by decide +kernel
theorem dX1_carry_0 : decode cX1_carry 0 = .ok (.lconst 1, 1) := by decide +kernel
theorem dX1_carry_1 : decode cX1_carry 1 = .ok (.lstore_n 3, 1) := by decide +kernel
theorem dX1_carry_2 : decode cX1_carry 2 = .ok (.iconst 0, 1) := by decide +kernel
theorem dX1_carry_3 : decode cX1_carry 3 = .ok (.istore 5, 2) := by decide +kernel
theorem dX1_carry_5 : decode cX1_carry 5 = .ok (.iload 5, 2) := by decide +kernel
theorem dX1_carry_7 : decode cX1_carry 7 = .ok (.iload_n 1, 1) := by decide +kernel
theorem dX1_carry_8 : decode cX1_carry 8 = .ok (.if_icmp .gt 25, 3) := by decide +kernel
theorem dX1_carry_11 : decode cX1_carry 11 = .ok (.aload_n 0, 1) := by decide +kernel
theorem dX1_carry_12 : decode cX1_carry 12 = .ok (.getfield 17, 3) := by decide +kernel
theorem dX1_carry_15 : decode cX1_carry 15 = .ok (.iload 5, 2) := by decide +kernel
theorem dX1_carry_17 : decode cX1_carry 17 = .ok (.aaload, 1) := by decide +kernel
theorem dX1_carry_18 : decode cX1_carry 18 = .ok (.lload_n 3, 1) := by decide +kernel
theorem dX1_carry_19 : decode cX1_carry 19 = .ok (.invokevirtual 69, 3) := by decide +kernel
theorem dX1_carry_22 : decode cX1_carry 22 = .ok (.lload_n 3, 1) := by decide +kernel
theorem dX1_carry_23 : decode cX1_carry 23 = .ok (.iload_n 2, 1) := by decide +kernel
theorem dX1_carry_24 : decode cX1_carry 24 = .ok (.i2l, 1) := by decide +kernel
theorem dX1_carry_25 : decode cX1_carry 25 = .ok (.lmul, 1) := by decide +kernel
theorem dX1_carry_26 : decode cX1_carry 26 = .ok (.lstore_n 3, 1) := by decide +kernel
theorem dX1_carry_27 : decode cX1_carry 27 = .ok (.iinc 5 1, 3) := by decide +kernel
theorem dX1_carry_30 : decode cX1_carry 30 = .ok (.goto (-25), 3) := by decide +kernel
theorem dX1_carry_33 : decode cX1_carry 33 = .ok (.return_, 1) := by decide +kernel
theorem dX2_init_0 : decode cX2_init 0 = .ok (.aload_n 0, 1) := by decide +kernel
theorem dX2_init_1 : decode cX2_init 1 = .ok (.invokespecial 3, 3) := by decide +kernel
theorem dX2_init_4 : decode cX2_init 4 = .ok (.aload_n 0, 1) := by decide +kernel
theorem dX2_init_5 : decode cX2_init 5 = .ok (.new 9, 3) := by decide +kernel
theorem dX2_init_8 : decode cX2_init 8 = .ok (.dup, 1) := by decide +kernel
theorem dX2_init_9 : decode cX2_init 9 = .ok (.bipush 32, 2) := by decide +kernel
theorem dX2_init_11 : decode cX2_init 11 = .ok (.invokespecial 11, 3) := by decide +kernel
theorem dX2_init_14 : decode cX2_init 14 = .ok (.putfield 14, 3) := by decide +kernel
theorem dX2_init_17 : decode cX2_init 17 = .ok (.aload_n 0, 1) := by decide +kernel
theorem dX2_init_18 : decode cX2_init 18 = .ok (.new 9, 3) := by decide +kernel
theorem dX2_init_21 : decode cX2_init 21 = .ok (.dup, 1) := by decide +kernel
theorem dX2_init_22 : decode cX2_init 22 = .ok (.bipush 32, 2) := by decide +kernel
theorem dX2_init_24 : decode cX2_init 24 = .ok (.invokespecial 11, 3) := by decide +kernel
theorem dX2_init_27 : decode cX2_init 27 = .ok (.putfield 20, 3) := by decide +kernel
theorem dX2_init_30 : decode cX2_init 30 = .ok (.aload_n 0, 1) := by decide +kernel
theorem dX2_init_31 : decode cX2_init 31 = .ok (.new 9, 3) := by decide +kernel
theorem dX2_init_34 : decode cX2_init 34 = .ok (.dup, 1) := by decide +kernel
theorem dX2_init_35 : decode cX2_init 35 = .ok (.bipush 32, 2) := by decide +kernel
theorem dX2_init_37 : decode cX2_init 37 = .ok (.invokespecial 11, 3) := by decide +kernel
theorem dX2_init_40 : decode cX2_init 40 = .ok (.putfield 23, 3) := by decide +kernel
theorem dX2_init_43 : decode cX2_init 43 = .ok (.aload_n 0, 1) := by decide +kernel
theorem dX2_init_44 : decode cX2_init 44 = .ok (.new 9, 3) := by decide +kernel
theorem dX2_init_47 : decode cX2_init 47 = .ok (.dup, 1) := by decide +kernel
theorem dX2_init_48 : decode cX2_init 48 = .ok (.bipush 32, 2) := by decide +kernel
theorem dX2_init_50 : decode cX2_init 50 = .ok (.invokespecial 11, 3) := by decide +kernel
theorem dX2_init_53 : decode cX2_init 53 = .ok (.putfield 26, 3) := by decide +kernel
theorem dX2_init_56 : decode cX2_init 56 = .ok (.aload_n 0, 1) := by decide +kernel
theorem dX2_init_57 : decode cX2_init 57 = .ok (.new 9, 3) := by decide +kernel
theorem dX2_init_60 : decode cX2_init 60 = .ok (.dup, 1) := by decide +kernel
theorem dX2_init_61 : decode cX2_init 61 = .ok (.bipush 32, 2) := by decide +kernel
theorem dX2_init_63 : decode cX2_init 63 = .ok (.invokespecial 11, 3) := by decide +kernel
theorem dX2_init_66 : decode cX2_init 66 = .ok (.putfield 29, 3) := by decide +kernel
theorem dX2_init_69 : decode cX2_init 69 = .ok (.aload_n 0, 1) := by decide +kernel
theorem dX2_init_70 : decode cX2_init 70 = .ok (.getfield 20, 3) := by decide +kernel
theorem dX2_init_73 : decode cX2_init 73 = .ok (.lconst 1, 1) := by decide +kernel
theorem dX2_init_74 : decode cX2_init 74 = .ok (.invokevirtual 32, 3) := by decide +kernel
theorem dX2_init_77 : decode cX2_init 77 = .ok (.return_, 1) := by decide +kernel
theorem dX2_become_0 : decode cX2_become 0 = .ok (.aload_n 0, 1) := by decide +kernel
theorem dX2_become_1 : decode cX2_become 1 = .ok (.getfield 26, 3) := by decide +kernel
theorem dX2_become_4 : decode cX2_become 4 = .ok (.aload_n 2, 1) := by decide +kernel
theorem dX2_become_5 : decode cX2_become 5 = .ok (.invokevirtual 36, 3) := by decide +kernel
theorem dX2_become_8 : decode cX2_become 8 = .ok (.aload_n 0, 1) := by decide +kernel
theorem dX2_become_9 : decode cX2_become 9 = .ok (.getfield 29, 3) := by decide +kernel
theorem dX2_become_12 : decode cX2_become 12 = .ok (.aload_n 1, 1) := by decide +kernel
theorem dX2_become_13 : decode cX2_become 13 = .ok (.invokevirtual 36, 3) := by decide +kernel
theorem dX2_become_16 : decode cX2_become 16 = .ok (.aload_n 0, 1) := by decide +kernel
theorem dX2_become_17 : decode cX2_become 17 = .ok (.invokevirtual 40, 3) := by decide +kernel
theorem dX2_become_20 : decode cX2_become 20 = .ok (.aload_n 0, 1) := by decide +kernel
theorem dX2_become_21 : decode cX2_become 21 = .ok (.getfield 29, 3) := by decide +kernel
theorem dX2_become_24 : decode cX2_become 24 = .ok (.aload_n 1, 1) := by decide +kernel
theorem dX2_become_25 : decode cX2_become 25 = .ok (.invokevirtual 36, 3) := by decide +kernel
theorem dX2_become_28 : decode cX2_become 28 = .ok (.aload_n 0, 1) := by decide +kernel
theorem dX2_become_29 : decode cX2_become 29 = .ok (.getfield 29, 3) := by decide +kernel
theorem dX2_become_32 : decode cX2_become 32 = .ok (.aload_n 0, 1) := by decide +kernel
theorem dX2_become_33 : decode cX2_become 33 = .ok (.getfield 26, 3) := by decide +kernel
theorem dX2_become_36 : decode cX2_become 36 = .ok (.aload_n 0, 1) := by decide +kernel
theorem dX2_become_37 : decode cX2_become 37 = .ok (.getfield 14, 3) := by decide +kernel
theorem dX2_become_40 : decode cX2_become 40 = .ok (.invokevirtual 43, 3) := by decide +kernel
theorem dX2_become_43 : decode cX2_become 43 = .ok (.aload_n 0, 1) := by decide +kernel
theorem dX2_become_44 : decode cX2_become 44 = .ok (.getfield 29, 3) := by decide +kernel
theorem dX2_become_47 : decode cX2_become 47 = .ok (.aload_n 2, 1) := by decide +kernel
theorem dX2_become_48 : decode cX2_become 48 = .ok (.invokevirtual 36, 3) := by decide +kernel
theorem dX2_become_51 : decode cX2_become 51 = .ok (.aload_n 0, 1) := by decide +kernel
theorem dX2_become_52 : decode cX2_become 52 = .ok (.getfield 29, 3) := by decide +kernel
theorem dX2_become_55 : decode cX2_become 55 = .ok (.aload_n 0, 1) := by decide +kernel
theorem dX2_become_56 : decode cX2_become 56 = .ok (.getfield 26, 3) := by decide +kernel
theorem dX2_become_59 : decode cX2_become 59 = .ok (.aload_n 0, 1) := by decide +kernel
theorem dX2_become_60 : decode cX2_become 60 = .ok (.getfield 20, 3) := by decide +kernel
theorem dX2_become_63 : decode cX2_become 63 = .ok (.invokevirtual 43, 3) := by decide +kernel
theorem dX2_become_66 : decode cX2_become 66 = .ok (.return_, 1) := by decide +kernel
theorem dX2_findDivisor_0 : decode cX2_findDivisor 0 = .ok (.iconst 0, 1) := by decide +kernel
theorem dX2_findDivisor_1 : decode cX2_findDivisor 1 = .ok (.istore_n 1, 1) := by decide +kernel
theorem dX2_findDivisor_2 : decode cX2_findDivisor 2 = .ok (.iload_n 1, 1) := by decide +kernel
theorem dX2_findDivisor_3 : decode cX2_findDivisor 3 = .ok (.ldc 47, 2) := by decide +kernel
theorem dX2_findDivisor_5 : decode cX2_findDivisor 5 = .ok (.if_icmp .ge 52, 3) := by decide +kernel
theorem dX2_findDivisor_8 : decode cX2_findDivisor 8 = .ok (.aload_n 0, 1) := by decide +kernel
theorem dX2_findDivisor_9 : decode cX2_findDivisor 9 = .ok (.getfield 29, 3) := by decide +kernel
theorem dX2_findDivisor_12 : decode cX2_findDivisor 12 = .ok (.invokevirtual 48, 3) := by decide +kernel
theorem dX2_findDivisor_15 : decode cX2_findDivisor 15 = .ok (.ifCond .ne 42, 3) := by decide +kernel
theorem dX2_findDivisor_18 : decode cX2_findDivisor 18 = .ok (.aload_n 0, 1) := by decide +kernel
theorem dX2_findDivisor_19 : decode cX2_findDivisor 19 = .ok (.getfield 26, 3) := by decide +kernel
theorem dX2_findDivisor_22 : decode cX2_findDivisor 22 = .ok (.aload_n 0, 1) := by decide +kernel
theorem dX2_findDivisor_23 : decode cX2_findDivisor 23 = .ok (.getfield 29, 3) := by decide +kernel
theorem dX2_findDivisor_26 : decode cX2_findDivisor 26 = .ok (.aload_n 0, 1) := by decide +kernel
theorem dX2_findDivisor_27 : decode cX2_findDivisor 27 = .ok (.getfield 23, 3) := by decide +kernel
theorem dX2_findDivisor_30 : decode cX2_findDivisor 30 = .ok (.invokevirtual 43, 3) := by decide +kernel
theorem dX2_findDivisor_33 : decode cX2_findDivisor 33 = .ok (.aload_n 0, 1) := by decide +kernel
theorem dX2_findDivisor_34 : decode cX2_findDivisor 34 = .ok (.getfield 26, 3) := by decide +kernel
theorem dX2_findDivisor_37 : decode cX2_findDivisor 37 = .ok (.astore_n 2, 1) := by decide +kernel
theorem dX2_findDivisor_38 : decode cX2_findDivisor 38 = .ok (.aload_n 0, 1) := by decide +kernel
theorem dX2_findDivisor_39 : decode cX2_findDivisor 39 = .ok (.aload_n 0, 1) := by decide +kernel
theorem dX2_findDivisor_40 : decode cX2_findDivisor 40 = .ok (.getfield 29, 3) := by decide +kernel
theorem dX2_findDivisor_43 : decode cX2_findDivisor 43 = .ok (.putfield 26, 3) := by decide +kernel
theorem dX2_findDivisor_46 : decode cX2_findDivisor 46 = .ok (.aload_n 0, 1) := by decide +kernel
theorem dX2_findDivisor_47 : decode cX2_findDivisor 47 = .ok (.aload_n 2, 1) := by decide +kernel
theorem dX2_findDivisor_48 : decode cX2_findDivisor 48 = .ok (.putfield 29, 3) := by decide +kernel
theorem dX2_findDivisor_51 : decode cX2_findDivisor 51 = .ok (.iinc 1 1, 3) := by decide +kernel
theorem dX2_findDivisor_54 : decode cX2_findDivisor 54 = .ok (.goto (-52), 3) := by decide +kernel
theorem dX2_findDivisor_57 : decode cX2_findDivisor 57 = .ok (.return_, 1) := by decide +kernel
theorem dX3_init_0 : decode cX3_init 0 = .ok (.aload_n 0, 1) := by decide +kernel
theorem dX3_init_1 : decode cX3_init 1 = .ok (.invokespecial 3, 3) := by decide +kernel
theorem dX3_init_4 : decode cX3_init 4 = .ok (.aload_n 0, 1) := by decide +kernel
theorem dX3_init_5 : decode cX3_init 5 = .ok (.new 9, 3) := by decide +kernel
theorem dX3_init_8 : decode cX3_init 8 = .ok (.dup, 1) := by decide +kernel
theorem dX3_init_9 : decode cX3_init 9 = .ok (.invokespecial 11, 3) := by decide +kernel
theorem dX3_init_12 : decode cX3_init 12 = .ok (.putfield 12, 3) := by decide +kernel
theorem dX3_init_15 : decode cX3_init 15 = .ok (.aload_n 0, 1) := by decide +kernel
theorem dX3_init_16 : decode cX3_init 16 = .ok (.new 18, 3) := by decide +kernel
theorem dX3_init_19 : decode cX3_init 19 = .ok (.dup, 1) := by decide +kernel
theorem dX3_init_20 : decode cX3_init 20 = .ok (.invokespecial 20, 3) := by decide +kernel
theorem dX3_init_23 : decode cX3_init 23 = .ok (.putfield 21, 3) := by decide +kernel
theorem dX3_init_26 : decode cX3_init 26 = .ok (.aload_n 0, 1) := by decide +kernel
theorem dX3_init_27 : decode cX3_init 27 = .ok (.iconst 4, 1) := by decide +kernel
theorem dX3_init_28 : decode cX3_init 28 = .ok (.anewarray 25, 3) := by decide +kernel
theorem dX3_init_31 : decode cX3_init 31 = .ok (.putfield 27, 3) := by decide +kernel
theorem dX3_init_34 : decode cX3_init 34 = .ok (.aload_n 0, 1) := by decide +kernel
theorem dX3_init_35 : decode cX3_init 35 = .ok (.iconst 4, 1) := by decide +kernel
theorem dX3_init_36 : decode cX3_init 36 = .ok (.newarray .int, 2) := by decide +kernel
theorem dX3_init_38 : decode cX3_init 38 = .ok (.putfield 31, 3) := by decide +kernel
theorem dX3_init_41 : decode cX3_init 41 = .ok (.aload_n 0, 1) := by decide +kernel
theorem dX3_init_42 : decode cX3_init 42 = .ok (.bipush 120, 2) := by decide +kernel
theorem dX3_init_44 : decode cX3_init 44 = .ok (.newarray .int, 2) := by decide +kernel
theorem dX3_init_46 : decode cX3_init 46 = .ok (.putfield 35, 3) := by decide +kernel
theorem dX3_init_49 : decode cX3_init 49 = .ok (.aload_n 0, 1) := by decide +kernel
theorem dX3_init_50 : decode cX3_init 50 = .ok (.bipush 6, 2) := by decide +kernel
theorem dX3_init_52 : decode cX3_init 52 = .ok (.newarray .int, 2) := by decide +kernel
theorem dX3_init_54 : decode cX3_init 54 = .ok (.putfield 38, 3) := by decide +kernel
theorem dX3_init_57 : decode cX3_init 57 = .ok (.aload_n 0, 1) := by decide +kernel
theorem dX3_init_58 : decode cX3_init 58 = .ok (.bipush 6, 2) := by decide +kernel
theorem dX3_init_60 : decode cX3_init 60 = .ok (.newarray .int, 2) := by decide +kernel
theorem dX3_init_62 : decode cX3_init 62 = .ok (.putfield 41, 3) := by decide +kernel
theorem dX3_init_65 : decode cX3_init 65 = .ok (.aload_n 0, 1) := by decide +kernel
theorem dX3_init_66 : decode cX3_init 66 = .ok (.bipush 6, 2) := by decide +kernel
theorem dX3_init_68 : decode cX3_init 68 = .ok (.bipush 10, 2) := by decide +kernel
theorem dX3_init_70 : decode cX3_init 70 = .ok (.multianewarray 44 2, 4) := by decide +kernel
theorem dX3_init_74 : decode cX3_init 74 = .ok (.putfield 46, 3) := by decide +kernel
theorem dX3_init_77 : decode cX3_init 77 = .ok (.iconst 0, 1) := by decide +kernel
theorem dX3_init_78 : decode cX3_init 78 = .ok (.istore_n 1, 1) := by decide +kernel
theorem dX3_init_79 : decode cX3_init 79 = .ok (.iload_n 1, 1) := by decide +kernel
theorem dX3_init_80 : decode cX3_init 80 = .ok (.iconst 4, 1) := by decide +kernel
theorem dX3_init_81 : decode cX3_init 81 = .ok (.if_icmp .ge 22, 3) := by decide +kernel
theorem dX3_init_84 : decode cX3_init 84 = .ok (.aload_n 0, 1) := by decide +kernel
theorem dX3_init_85 : decode cX3_init 85 = .ok (.getfield 27, 3) := by decide +kernel
theorem dX3_init_88 : decode cX3_init 88 = .ok (.iload_n 1, 1) := by decide +kernel
theorem dX3_init_89 : decode cX3_init 89 = .ok (.new 25, 3) := by decide +kernel
theorem dX3_init_92 : decode cX3_init 92 = .ok (.dup, 1) := by decide +kernel
theorem dX3_init_93 : decode cX3_init 93 = .ok (.invokespecial 49, 3) := by decide +kernel
theorem dX3_init_96 : decode cX3_init 96 = .ok (.aastore, 1) := by decide +kernel
theorem dX3_init_97 : decode cX3_init 97 = .ok (.iinc 1 1, 3) := by decide +kernel
theorem dX3_init_100 : decode cX3_init 100 = .ok (.goto (-21), 3) := by decide +kernel
theorem dX3_init_103 : decode cX3_init 103 = .ok (.return_, 1) := by decide +kernel
theorem dX3_refresh_0 : decode cX3_refresh 0 = .ok (.aload_n 0, 1) := by decide +kernel
theorem dX3_refresh_1 : decode cX3_refresh 1 = .ok (.getfield 50, 3) := by decide +kernel
theorem dX3_refresh_4 : decode cX3_refresh 4 = .ok (.ifCond .eq 4, 3) := by decide +kernel
theorem dX3_refresh_7 : decode cX3_refresh 7 = .ok (.return_, 1) := by decide +kernel
theorem dX3_refresh_8 : decode cX3_refresh 8 = .ok (.aload_n 0, 1) := by decide +kernel
theorem dX3_refresh_9 : decode cX3_refresh 9 = .ok (.iconst 1, 1) := by decide +kernel
theorem dX3_refresh_10 : decode cX3_refresh 10 = .ok (.putfield 50, 3) := by decide +kernel
theorem dX3_refresh_13 : decode cX3_refresh 13 = .ok (.iconst 0, 1) := by decide +kernel
theorem dX3_refresh_14 : decode cX3_refresh 14 = .ok (.istore_n 1, 1) := by decide +kernel
theorem dX3_refresh_15 : decode cX3_refresh 15 = .ok (.iload_n 1, 1) := by decide +kernel
theorem dX3_refresh_16 : decode cX3_refresh 16 = .ok (.iconst 4, 1) := by decide +kernel
theorem dX3_refresh_17 : decode cX3_refresh 17 = .ok (.if_icmp .ge 54, 3) := by decide +kernel
theorem dX3_refresh_20 : decode cX3_refresh 20 = .ok (.aload_n 0, 1) := by decide +kernel
theorem dX3_refresh_21 : decode cX3_refresh 21 = .ok (.getfield 21, 3) := by decide +kernel
theorem dX3_refresh_24 : decode cX3_refresh 24 = .ok (.aload_n 0, 1) := by decide +kernel
theorem dX3_refresh_25 : decode cX3_refresh 25 = .ok (.getfield 12, 3) := by decide +kernel
theorem dX3_refresh_28 : decode cX3_refresh 28 = .ok (.getfield 54, 3) := by decide +kernel
theorem dX3_refresh_31 : decode cX3_refresh 31 = .ok (.iload_n 1, 1) := by decide +kernel
theorem dX3_refresh_32 : decode cX3_refresh 32 = .ok (.aaload, 1) := by decide +kernel
theorem dX3_refresh_33 : decode cX3_refresh 33 = .ok (.aload_n 0, 1) := by decide +kernel
theorem dX3_refresh_34 : decode cX3_refresh 34 = .ok (.getfield 12, 3) := by decide +kernel
theorem dX3_refresh_37 : decode cX3_refresh 37 = .ok (.getfield 57, 3) := by decide +kernel
theorem dX3_refresh_40 : decode cX3_refresh 40 = .ok (.iload_n 1, 1) := by decide +kernel
theorem dX3_refresh_41 : decode cX3_refresh 41 = .ok (.iaload, 1) := by decide +kernel
theorem dX3_refresh_42 : decode cX3_refresh 42 = .ok (.invokevirtual 60, 3) := by decide +kernel
theorem dX3_refresh_45 : decode cX3_refresh 45 = .ok (.aload_n 0, 1) := by decide +kernel
theorem dX3_refresh_46 : decode cX3_refresh 46 = .ok (.getfield 27, 3) := by decide +kernel
theorem dX3_refresh_49 : decode cX3_refresh 49 = .ok (.iload_n 1, 1) := by decide +kernel
theorem dX3_refresh_50 : decode cX3_refresh 50 = .ok (.aaload, 1) := by decide +kernel
theorem dX3_refresh_51 : decode cX3_refresh 51 = .ok (.aload_n 0, 1) := by decide +kernel
theorem dX3_refresh_52 : decode cX3_refresh 52 = .ok (.getfield 21, 3) := by decide +kernel
theorem dX3_refresh_55 : decode cX3_refresh 55 = .ok (.aload_n 0, 1) := by decide +kernel
theorem dX3_refresh_56 : decode cX3_refresh 56 = .ok (.getfield 12, 3) := by decide +kernel
theorem dX3_refresh_59 : decode cX3_refresh 59 = .ok (.getfield 64, 3) := by decide +kernel
theorem dX3_refresh_62 : decode cX3_refresh 62 = .ok (.invokevirtual 68, 3) := by decide +kernel
theorem dX3_refresh_65 : decode cX3_refresh 65 = .ok (.iinc 1 1, 3) := by decide +kernel
theorem dX3_refresh_68 : decode cX3_refresh 68 = .ok (.goto (-53), 3) := by decide +kernel
theorem dX3_refresh_71 : decode cX3_refresh 71 = .ok (.iconst 0, 1) := by decide +kernel
theorem dX3_refresh_72 : decode cX3_refresh 72 = .ok (.istore_n 1, 1) := by decide +kernel
theorem dX3_refresh_73 : decode cX3_refresh 73 = .ok (.iload_n 1, 1) := by decide +kernel
theorem dX3_refresh_74 : decode cX3_refresh 74 = .ok (.aload_n 0, 1) := by decide +kernel
theorem dX3_refresh_75 : decode cX3_refresh 75 = .ok (.getfield 12, 3) := by decide +kernel
theorem dX3_refresh_78 : decode cX3_refresh 78 = .ok (.getfield 64, 3) := by decide +kernel
theorem dX3_refresh_81 : decode cX3_refresh 81 = .ok (.if_icmp .ge 40, 3) := by decide +kernel
theorem dX3_refresh_84 : decode cX3_refresh 84 = .ok (.iconst 0, 1) := by decide +kernel
theorem dX3_refresh_85 : decode cX3_refresh 85 = .ok (.istore_n 2, 1) := by decide +kernel
theorem dX3_refresh_86 : decode cX3_refresh 86 = .ok (.iload_n 2, 1) := by decide +kernel
theorem dX3_refresh_87 : decode cX3_refresh 87 = .ok (.bipush 10, 2) := by decide +kernel
theorem dX3_refresh_89 : decode cX3_refresh 89 = .ok (.if_icmp .ge 26, 3) := by decide +kernel
theorem dX3_refresh_92 : decode cX3_refresh 92 = .ok (.aload_n 0, 1) := by decide +kernel
theorem dX3_refresh_93 : decode cX3_refresh 93 = .ok (.getfield 46, 3) := by decide +kernel
theorem dX3_refresh_96 : decode cX3_refresh 96 = .ok (.iload_n 1, 1) := by decide +kernel
theorem dX3_refresh_97 : decode cX3_refresh 97 = .ok (.aaload, 1) := by decide +kernel
theorem dX3_refresh_98 : decode cX3_refresh 98 = .ok (.iload_n 2, 1) := by decide +kernel
theorem dX3_refresh_99 : decode cX3_refresh 99 = .ok (.aload_n 0, 1) := by decide +kernel
theorem dX3_refresh_100 : decode cX3_refresh 100 = .ok (.getfield 12, 3) := by decide +kernel
theorem dX3_refresh_103 : decode cX3_refresh 103 = .ok (.iload_n 1, 1) := by decide +kernel
theorem dX3_refresh_104 : decode cX3_refresh 104 = .ok (.iload_n 2, 1) := by decide +kernel
theorem dX3_refresh_105 : decode cX3_refresh 105 = .ok (.invokevirtual 71, 3) := by decide +kernel
theorem dX3_refresh_108 : decode cX3_refresh 108 = .ok (.iastore, 1) := by decide +kernel
theorem dX3_refresh_109 : decode cX3_refresh 109 = .ok (.iinc 2 1, 3) := by decide +kernel
theorem dX3_refresh_112 : decode cX3_refresh 112 = .ok (.goto (-26), 3) := by decide +kernel
theorem dX3_refresh_115 : decode cX3_refresh 115 = .ok (.iinc 1 1, 3) := by decide +kernel
theorem dX3_refresh_118 : decode cX3_refresh 118 = .ok (.goto (-45), 3) := by decide +kernel
theorem dX3_refresh_121 : decode cX3_refresh 121 = .ok (.aload_n 0, 1) := by decide +kernel
theorem dX3_refresh_122 : decode cX3_refresh 122 = .ok (.invokevirtual 75, 3) := by decide +kernel
theorem dX3_refresh_125 : decode cX3_refresh 125 = .ok (.return_, 1) := by decide +kernel
theorem dX3_findTurns_0 : decode cX3_findTurns 0 = .ok (.aload_n 0, 1) := by decide +kernel
theorem dX3_findTurns_1 : decode cX3_findTurns 1 = .ok (.iconst 0, 1) := by decide +kernel
theorem dX3_findTurns_2 : decode cX3_findTurns 2 = .ok (.putfield 78, 3) := by decide +kernel
theorem dX3_findTurns_5 : decode cX3_findTurns 5 = .ok (.iconst 0, 1) := by decide +kernel
theorem dX3_findTurns_6 : decode cX3_findTurns 6 = .ok (.istore_n 1, 1) := by decide +kernel
theorem dX3_findTurns_7 : decode cX3_findTurns 7 = .ok (.iload_n 1, 1) := by decide +kernel
theorem dX3_findTurns_8 : decode cX3_findTurns 8 = .ok (.bipush 120, 2) := by decide +kernel
theorem dX3_findTurns_10 : decode cX3_findTurns 10 = .ok (.if_icmp .ge 44, 3) := by decide +kernel
theorem dX3_findTurns_13 : decode cX3_findTurns 13 = .ok (.iload_n 1, 1) := by decide +kernel
theorem dX3_findTurns_14 : decode cX3_findTurns 14 = .ok (.bipush 12, 2) := by decide +kernel
theorem dX3_findTurns_16 : decode cX3_findTurns 16 = .ok (.irem, 1) := by decide +kernel
theorem dX3_findTurns_17 : decode cX3_findTurns 17 = .ok (.ifCond .eq 11, 3) := by decide +kernel
theorem dX3_findTurns_20 : decode cX3_findTurns 20 = .ok (.aload_n 0, 1) := by decide +kernel
theorem dX3_findTurns_21 : decode cX3_findTurns 21 = .ok (.iload_n 1, 1) := by decide +kernel
theorem dX3_findTurns_22 : decode cX3_findTurns 22 = .ok (.invokevirtual 81, 3) := by decide +kernel
theorem dX3_findTurns_25 : decode cX3_findTurns 25 = .ok (.ifCond .eq 23, 3) := by decide +kernel
theorem dX3_findTurns_28 : decode cX3_findTurns 28 = .ok (.aload_n 0, 1) := by decide +kernel
theorem dX3_findTurns_29 : decode cX3_findTurns 29 = .ok (.getfield 35, 3) := by decide +kernel
theorem dX3_findTurns_32 : decode cX3_findTurns 32 = .ok (.aload_n 0, 1) := by decide +kernel
theorem dX3_findTurns_33 : decode cX3_findTurns 33 = .ok (.getfield 78, 3) := by decide +kernel
theorem dX3_findTurns_36 : decode cX3_findTurns 36 = .ok (.iload_n 1, 1) := by decide +kernel
theorem dX3_findTurns_37 : decode cX3_findTurns 37 = .ok (.iastore, 1) := by decide +kernel
theorem dX3_findTurns_38 : decode cX3_findTurns 38 = .ok (.aload_n 0, 1) := by decide +kernel
theorem dX3_findTurns_39 : decode cX3_findTurns 39 = .ok (.dup, 1) := by decide +kernel
theorem dX3_findTurns_40 : decode cX3_findTurns 40 = .ok (.getfield 78, 3) := by decide +kernel
theorem dX3_findTurns_43 : decode cX3_findTurns 43 = .ok (.iconst 1, 1) := by decide +kernel
theorem dX3_findTurns_44 : decode cX3_findTurns 44 = .ok (.iadd, 1) := by decide +kernel
theorem dX3_findTurns_45 : decode cX3_findTurns 45 = .ok (.putfield 78, 3) := by decide +kernel
theorem dX3_findTurns_48 : decode cX3_findTurns 48 = .ok (.iinc 1 1, 3) := by decide +kernel
theorem dX3_findTurns_51 : decode cX3_findTurns 51 = .ok (.goto (-44), 3) := by decide +kernel
theorem dX3_findTurns_54 : decode cX3_findTurns 54 = .ok (.return_, 1) := by decide +kernel
theorem dX3_someoneMoves_0 : decode cX3_someoneMoves 0 = .ok (.iconst 0, 1) := by decide +kernel
theorem dX3_someoneMoves_1 : decode cX3_someoneMoves 1 = .ok (.istore_n 2, 1) := by decide +kernel
theorem dX3_someoneMoves_2 : decode cX3_someoneMoves 2 = .ok (.iload_n 2, 1) := by decide +kernel
theorem dX3_someoneMoves_3 : decode cX3_someoneMoves 3 = .ok (.iconst 4, 1) := by decide +kernel
theorem dX3_someoneMoves_4 : decode cX3_someoneMoves 4 = .ok (.if_icmp .ge 36, 3) := by decide +kernel
theorem dX3_someoneMoves_7 : decode cX3_someoneMoves 7 = .ok (.aload_n 0, 1) := by decide +kernel
theorem dX3_someoneMoves_8 : decode cX3_someoneMoves 8 = .ok (.getfield 27, 3) := by decide +kernel
theorem dX3_someoneMoves_11 : decode cX3_someoneMoves 11 = .ok (.iload_n 2, 1) := by decide +kernel
theorem dX3_someoneMoves_12 : decode cX3_someoneMoves 12 = .ok (.aaload, 1) := by decide +kernel
theorem dX3_someoneMoves_13 : decode cX3_someoneMoves 13 = .ok (.getfield 85, 3) := by decide +kernel
theorem dX3_someoneMoves_16 : decode cX3_someoneMoves 16 = .ok (.astore_n 3, 1) := by decide +kernel
theorem dX3_someoneMoves_17 : decode cX3_someoneMoves 17 = .ok (.iload_n 1, 1) := by decide +kernel
theorem dX3_someoneMoves_18 : decode cX3_someoneMoves 18 = .ok (.ifCond .le 16, 3) := by decide +kernel
theorem dX3_someoneMoves_21 : decode cX3_someoneMoves 21 = .ok (.aload_n 3, 1) := by decide +kernel
theorem dX3_someoneMoves_22 : decode cX3_someoneMoves 22 = .ok (.iload_n 1, 1) := by decide +kernel
theorem dX3_someoneMoves_23 : decode cX3_someoneMoves 23 = .ok (.iaload, 1) := by decide +kernel
theorem dX3_someoneMoves_24 : decode cX3_someoneMoves 24 = .ok (.aload_n 3, 1) := by decide +kernel
theorem dX3_someoneMoves_25 : decode cX3_someoneMoves 25 = .ok (.iload_n 1, 1) := by decide +kernel
theorem dX3_someoneMoves_26 : decode cX3_someoneMoves 26 = .ok (.iconst 1, 1) := by decide +kernel
theorem dX3_someoneMoves_27 : decode cX3_someoneMoves 27 = .ok (.isub, 1) := by decide +kernel
theorem dX3_someoneMoves_28 : decode cX3_someoneMoves 28 = .ok (.iaload, 1) := by decide +kernel
theorem dX3_someoneMoves_29 : decode cX3_someoneMoves 29 = .ok (.if_icmp .eq 5, 3) := by decide +kernel
theorem dX3_someoneMoves_32 : decode cX3_someoneMoves 32 = .ok (.iconst 1, 1) := by decide +kernel
theorem dX3_someoneMoves_33 : decode cX3_someoneMoves 33 = .ok (.ireturn, 1) := by decide +kernel
theorem dX3_someoneMoves_34 : decode cX3_someoneMoves 34 = .ok (.iinc 2 1, 3) := by decide +kernel
theorem dX3_someoneMoves_37 : decode cX3_someoneMoves 37 = .ok (.goto (-35), 3) := by decide +kernel
theorem dX3_someoneMoves_40 : decode cX3_someoneMoves 40 = .ok (.iconst 0, 1) := by decide +kernel
theorem dX3_someoneMoves_41 : decode cX3_someoneMoves 41 = .ok (.ireturn, 1) := by decide +kernel
theorem dX3_allLive_0 : decode cX3_allLive 0 = .ok (.aload_n 0, 1) := by decide +kernel
theorem dX3_allLive_1 : decode cX3_allLive 1 = .ok (.getfield 31, 3) := by decide +kernel
theorem dX3_allLive_4 : decode cX3_allLive 4 = .ok (.iload_n 1, 1) := by decide +kernel
theorem dX3_allLive_5 : decode cX3_allLive 5 = .ok (.invokestatic 88, 3) := by decide +kernel
theorem dX3_allLive_8 : decode cX3_allLive 8 = .ok (.return_, 1) := by decide +kernel
theorem dX3_choose_0 : decode cX3_choose 0 = .ok (.iconst 0, 1) := by decide +kernel
theorem dX3_choose_1 : decode cX3_choose 1 = .ok (.istore_n 2, 1) := by decide +kernel
theorem dX3_choose_2 : decode cX3_choose 2 = .ok (.iload_n 2, 1) := by decide +kernel
theorem dX3_choose_3 : decode cX3_choose 3 = .ok (.aload_n 0, 1) := by decide +kernel
theorem dX3_choose_4 : decode cX3_choose 4 = .ok (.getfield 12, 3) := by decide +kernel
theorem dX3_choose_7 : decode cX3_choose 7 = .ok (.getfield 93, 3) := by decide +kernel
theorem dX3_choose_10 : decode cX3_choose 10 = .ok (.if_icmp .ge 42, 3) := by decide +kernel
theorem dX3_choose_13 : decode cX3_choose 13 = .ok (.aload_n 0, 1) := by decide +kernel
theorem dX3_choose_14 : decode cX3_choose 14 = .ok (.getfield 31, 3) := by decide +kernel
theorem dX3_choose_17 : decode cX3_choose 17 = .ok (.iload_n 2, 1) := by decide +kernel
theorem dX3_choose_18 : decode cX3_choose 18 = .ok (.iload_n 1, 1) := by decide +kernel
theorem dX3_choose_19 : decode cX3_choose 19 = .ok (.iconst 2, 1) := by decide +kernel
theorem dX3_choose_20 : decode cX3_choose 20 = .ok (.iload_n 2, 1) := by decide +kernel
theorem dX3_choose_21 : decode cX3_choose 21 = .ok (.imul, 1) := by decide +kernel
theorem dX3_choose_22 : decode cX3_choose 22 = .ok (.ishr, 1) := by decide +kernel
theorem dX3_choose_23 : decode cX3_choose 23 = .ok (.iconst 3, 1) := by decide +kernel
theorem dX3_choose_24 : decode cX3_choose 24 = .ok (.iand, 1) := by decide +kernel
theorem dX3_choose_25 : decode cX3_choose 25 = .ok (.iastore, 1) := by decide +kernel
theorem dX3_choose_26 : decode cX3_choose 26 = .ok (.aload_n 0, 1) := by decide +kernel
theorem dX3_choose_27 : decode cX3_choose 27 = .ok (.getfield 27, 3) := by decide +kernel
theorem dX3_choose_30 : decode cX3_choose 30 = .ok (.aload_n 0, 1) := by decide +kernel
theorem dX3_choose_31 : decode cX3_choose 31 = .ok (.getfield 31, 3) := by decide +kernel
theorem dX3_choose_34 : decode cX3_choose 34 = .ok (.iload_n 2, 1) := by decide +kernel
theorem dX3_choose_35 : decode cX3_choose 35 = .ok (.iaload, 1) := by decide +kernel
theorem dX3_choose_36 : decode cX3_choose 36 = .ok (.aaload, 1) := by decide +kernel
theorem dX3_choose_37 : decode cX3_choose 37 = .ok (.getfield 96, 3) := by decide +kernel
theorem dX3_choose_40 : decode cX3_choose 40 = .ok (.iconst (-1), 1) := by decide +kernel
theorem dX3_choose_41 : decode cX3_choose 41 = .ok (.if_icmp .eq 5, 3) := by decide +kernel
theorem dX3_choose_44 : decode cX3_choose 44 = .ok (.iconst 0, 1) := by decide +kernel
theorem dX3_choose_45 : decode cX3_choose 45 = .ok (.ireturn, 1) := by decide +kernel
theorem dX3_choose_46 : decode cX3_choose 46 = .ok (.iinc 2 1, 3) := by decide +kernel
theorem dX3_choose_49 : decode cX3_choose 49 = .ok (.goto (-47), 3) := by decide +kernel
theorem dX3_choose_52 : decode cX3_choose 52 = .ok (.iconst 1, 1) := by decide +kernel
theorem dX3_choose_53 : decode cX3_choose 53 = .ok (.ireturn, 1) := by decide +kernel
theorem dX3_doAllLive_0 : decode cX3_doAllLive 0 = .ok (.iconst 0, 1) := by decide +kernel
theorem dX3_doAllLive_1 : decode cX3_doAllLive 1 = .ok (.istore_n 2, 1) := by decide +kernel
theorem dX3_doAllLive_2 : decode cX3_doAllLive 2 = .ok (.iload_n 2, 1) := by decide +kernel
theorem dX3_doAllLive_3 : decode cX3_doAllLive 3 = .ok (.aload_n 0, 1) := by decide +kernel
theorem dX3_doAllLive_4 : decode cX3_doAllLive 4 = .ok (.getfield 12, 3) := by decide +kernel
theorem dX3_doAllLive_7 : decode cX3_doAllLive 7 = .ok (.getfield 93, 3) := by decide +kernel
theorem dX3_doAllLive_10 : decode cX3_doAllLive 10 = .ok (.if_icmp .ge 21, 3) := by decide +kernel
theorem dX3_doAllLive_13 : decode cX3_doAllLive 13 = .ok (.aload_n 0, 1) := by decide +kernel
theorem dX3_doAllLive_14 : decode cX3_doAllLive 14 = .ok (.getfield 31, 3) := by decide +kernel
theorem dX3_doAllLive_17 : decode cX3_doAllLive 17 = .ok (.iload_n 2, 1) := by decide +kernel
theorem dX3_doAllLive_18 : decode cX3_doAllLive 18 = .ok (.iaload, 1) := by decide +kernel
theorem dX3_doAllLive_19 : decode cX3_doAllLive 19 = .ok (.iload_n 1, 1) := by decide +kernel
theorem dX3_doAllLive_20 : decode cX3_doAllLive 20 = .ok (.if_icmp .eq 5, 3) := by decide +kernel
theorem dX3_doAllLive_23 : decode cX3_doAllLive 23 = .ok (.iconst 0, 1) := by decide +kernel
theorem dX3_doAllLive_24 : decode cX3_doAllLive 24 = .ok (.ireturn, 1) := by decide +kernel
theorem dX3_doAllLive_25 : decode cX3_doAllLive 25 = .ok (.iinc 2 1, 3) := by decide +kernel
theorem dX3_doAllLive_28 : decode cX3_doAllLive 28 = .ok (.goto (-26), 3) := by decide +kernel
theorem dX3_doAllLive_31 : decode cX3_doAllLive 31 = .ok (.aload_n 0, 1) := by decide +kernel
theorem dX3_doAllLive_32 : decode cX3_doAllLive 32 = .ok (.getfield 27, 3) := by decide +kernel
theorem dX3_doAllLive_35 : decode cX3_doAllLive 35 = .ok (.iload_n 1, 1) := by decide +kernel
theorem dX3_doAllLive_36 : decode cX3_doAllLive 36 = .ok (.aaload, 1) := by decide +kernel
theorem dX3_doAllLive_37 : decode cX3_doAllLive 37 = .ok (.getfield 96, 3) := by decide +kernel
theorem dX3_doAllLive_40 : decode cX3_doAllLive 40 = .ok (.iconst (-1), 1) := by decide +kernel
theorem dX3_doAllLive_41 : decode cX3_doAllLive 41 = .ok (.if_icmp .ne 7, 3) := by decide +kernel
theorem dX3_doAllLive_44 : decode cX3_doAllLive 44 = .ok (.iconst 1, 1) := by decide +kernel
theorem dX3_doAllLive_45 : decode cX3_doAllLive 45 = .ok (.goto 4, 3) := by decide +kernel
theorem dX3_doAllLive_48 : decode cX3_doAllLive 48 = .ok (.iconst 0, 1) := by decide +kernel
theorem dX3_doAllLive_49 : decode cX3_doAllLive 49 = .ok (.ireturn, 1) := by decide +kernel
theorem dX3_left_0 : decode cX3_left 0 = .ok (.aload_n 0, 1) := by decide +kernel
theorem dX3_left_1 : decode cX3_left 1 = .ok (.getfield 12, 3) := by decide +kernel
theorem dX3_left_4 : decode cX3_left 4 = .ok (.getfield 99, 3) := by decide +kernel
theorem dX3_left_7 : decode cX3_left 7 = .ok (.iload_n 2, 1) := by decide +kernel
theorem dX3_left_8 : decode cX3_left 8 = .ok (.aaload, 1) := by decide +kernel
theorem dX3_left_9 : decode cX3_left 9 = .ok (.iconst 0, 1) := by decide +kernel
theorem dX3_left_10 : decode cX3_left 10 = .ok (.iaload, 1) := by decide +kernel
theorem dX3_left_11 : decode cX3_left 11 = .ok (.istore_n 3, 1) := by decide +kernel
theorem dX3_left_12 : decode cX3_left 12 = .ok (.iconst 0, 1) := by decide +kernel
theorem dX3_left_13 : decode cX3_left 13 = .ok (.istore 4, 2) := by decide +kernel
theorem dX3_left_15 : decode cX3_left 15 = .ok (.iconst 0, 1) := by decide +kernel
theorem dX3_left_16 : decode cX3_left 16 = .ok (.istore 5, 2) := by decide +kernel
theorem dX3_left_18 : decode cX3_left 18 = .ok (.iload 5, 2) := by decide +kernel
theorem dX3_left_20 : decode cX3_left 20 = .ok (.aload_n 0, 1) := by decide +kernel
theorem dX3_left_21 : decode cX3_left 21 = .ok (.getfield 12, 3) := by decide +kernel
theorem dX3_left_24 : decode cX3_left 24 = .ok (.getfield 93, 3) := by decide +kernel
theorem dX3_left_27 : decode cX3_left 27 = .ok (.if_icmp .ge 42, 3) := by decide +kernel
theorem dX3_left_30 : decode cX3_left 30 = .ok (.iload 4, 2) := by decide +kernel
theorem dX3_left_32 : decode cX3_left 32 = .ok (.aload_n 0, 1) := by decide +kernel
theorem dX3_left_33 : decode cX3_left 33 = .ok (.getfield 12, 3) := by decide +kernel
theorem dX3_left_36 : decode cX3_left 36 = .ok (.getfield 102, 3) := by decide +kernel
theorem dX3_left_39 : decode cX3_left 39 = .ok (.iload 5, 2) := by decide +kernel
theorem dX3_left_41 : decode cX3_left 41 = .ok (.iaload, 1) := by decide +kernel
theorem dX3_left_42 : decode cX3_left 42 = .ok (.aload_n 0, 1) := by decide +kernel
theorem dX3_left_43 : decode cX3_left 43 = .ok (.getfield 27, 3) := by decide +kernel
theorem dX3_left_46 : decode cX3_left 46 = .ok (.aload_n 0, 1) := by decide +kernel
theorem dX3_left_47 : decode cX3_left 47 = .ok (.getfield 31, 3) := by decide +kernel
theorem dX3_left_50 : decode cX3_left 50 = .ok (.iload 5, 2) := by decide +kernel
theorem dX3_left_52 : decode cX3_left 52 = .ok (.iaload, 1) := by decide +kernel
theorem dX3_left_53 : decode cX3_left 53 = .ok (.aaload, 1) := by decide +kernel
theorem dX3_left_54 : decode cX3_left 54 = .ok (.getfield 105, 3) := by decide +kernel
theorem dX3_left_57 : decode cX3_left 57 = .ok (.iload_n 1, 1) := by decide +kernel
theorem dX3_left_58 : decode cX3_left 58 = .ok (.iaload, 1) := by decide +kernel
theorem dX3_left_59 : decode cX3_left 59 = .ok (.imul, 1) := by decide +kernel
theorem dX3_left_60 : decode cX3_left 60 = .ok (.iadd, 1) := by decide +kernel
theorem dX3_left_61 : decode cX3_left 61 = .ok (.istore 4, 2) := by decide +kernel
theorem dX3_left_63 : decode cX3_left 63 = .ok (.iinc 5 1, 3) := by decide +kernel
theorem dX3_left_66 : decode cX3_left 66 = .ok (.goto (-48), 3) := by decide +kernel
theorem dX3_left_69 : decode cX3_left 69 = .ok (.iload_n 3, 1) := by decide +kernel
theorem dX3_left_70 : decode cX3_left 70 = .ok (.ifCond .le 15, 3) := by decide +kernel
theorem dX3_left_73 : decode cX3_left 73 = .ok (.iload 4, 2) := by decide +kernel
theorem dX3_left_75 : decode cX3_left 75 = .ok (.iload_n 3, 1) := by decide +kernel
theorem dX3_left_76 : decode cX3_left 76 = .ok (.idiv, 1) := by decide +kernel
theorem dX3_left_77 : decode cX3_left 77 = .ok (.bipush 20, 2) := by decide +kernel
theorem dX3_left_79 : decode cX3_left 79 = .ok (.invokestatic 108, 3) := by decide +kernel
theorem dX3_left_82 : decode cX3_left 82 = .ok (.goto 4, 3) := by decide +kernel
theorem dX3_left_85 : decode cX3_left 85 = .ok (.iconst 0, 1) := by decide +kernel
theorem dX3_left_86 : decode cX3_left 86 = .ok (.ireturn, 1) := by decide +kernel
theorem dX3_hungerYears_0 : decode cX3_hungerYears 0 = .ok (.iconst 0, 1) := by decide +kernel
theorem dX3_hungerYears_1 : decode cX3_hungerYears 1 = .ok (.istore_n 1, 1) := by decide +kernel
theorem dX3_hungerYears_2 : decode cX3_hungerYears 2 = .ok (.iconst 0, 1) := by decide +kernel
theorem dX3_hungerYears_3 : decode cX3_hungerYears 3 = .ok (.istore_n 2, 1) := by decide +kernel
theorem dX3_hungerYears_4 : decode cX3_hungerYears 4 = .ok (.iload_n 2, 1) := by decide +kernel
theorem dX3_hungerYears_5 : decode cX3_hungerYears 5 = .ok (.aload_n 0, 1) := by decide +kernel
theorem dX3_hungerYears_6 : decode cX3_hungerYears 6 = .ok (.getfield 78, 3) := by decide +kernel
theorem dX3_hungerYears_9 : decode cX3_hungerYears 9 = .ok (.if_icmp .ge 100, 3) := by decide +kernel
theorem dX3_hungerYears_12 : decode cX3_hungerYears 12 = .ok (.aload_n 0, 1) := by decide +kernel
theorem dX3_hungerYears_13 : decode cX3_hungerYears 13 = .ok (.getfield 35, 3) := by decide +kernel
theorem dX3_hungerYears_16 : decode cX3_hungerYears 16 = .ok (.iload_n 2, 1) := by decide +kernel
theorem dX3_hungerYears_17 : decode cX3_hungerYears 17 = .ok (.iaload, 1) := by decide +kernel
theorem dX3_hungerYears_18 : decode cX3_hungerYears 18 = .ok (.istore_n 3, 1) := by decide +kernel
theorem dX3_hungerYears_19 : decode cX3_hungerYears 19 = .ok (.iload_n 3, 1) := by decide +kernel
theorem dX3_hungerYears_20 : decode cX3_hungerYears 20 = .ok (.bipush 12, 2) := by decide +kernel
theorem dX3_hungerYears_22 : decode cX3_hungerYears 22 = .ok (.irem, 1) := by decide +kernel
theorem dX3_hungerYears_23 : decode cX3_hungerYears 23 = .ok (.ifCond .ne 11, 3) := by decide +kernel
theorem dX3_hungerYears_26 : decode cX3_hungerYears 26 = .ok (.aload_n 0, 1) := by decide +kernel
theorem dX3_hungerYears_27 : decode cX3_hungerYears 27 = .ok (.getfield 41, 3) := by decide +kernel
theorem dX3_hungerYears_30 : decode cX3_hungerYears 30 = .ok (.iconst 0, 1) := by decide +kernel
theorem dX3_hungerYears_31 : decode cX3_hungerYears 31 = .ok (.invokestatic 88, 3) := by decide +kernel
theorem dX3_hungerYears_34 : decode cX3_hungerYears 34 = .ok (.aload_n 0, 1) := by decide +kernel
theorem dX3_hungerYears_35 : decode cX3_hungerYears 35 = .ok (.iload_n 3, 1) := by decide +kernel
theorem dX3_hungerYears_36 : decode cX3_hungerYears 36 = .ok (.invokevirtual 113, 3) := by decide +kernel
theorem dX3_hungerYears_39 : decode cX3_hungerYears 39 = .ok (.iconst 0, 1) := by decide +kernel
theorem dX3_hungerYears_40 : decode cX3_hungerYears 40 = .ok (.istore 4, 2) := by decide +kernel
theorem dX3_hungerYears_42 : decode cX3_hungerYears 42 = .ok (.iload 4, 2) := by decide +kernel
theorem dX3_hungerYears_44 : decode cX3_hungerYears 44 = .ok (.aload_n 0, 1) := by decide +kernel
theorem dX3_hungerYears_45 : decode cX3_hungerYears 45 = .ok (.getfield 12, 3) := by decide +kernel
theorem dX3_hungerYears_48 : decode cX3_hungerYears 48 = .ok (.getfield 64, 3) := by decide +kernel
theorem dX3_hungerYears_51 : decode cX3_hungerYears 51 = .ok (.if_icmp .ge 52, 3) := by decide +kernel
theorem dX3_hungerYears_54 : decode cX3_hungerYears 54 = .ok (.aload_n 0, 1) := by decide +kernel
theorem dX3_hungerYears_55 : decode cX3_hungerYears 55 = .ok (.getfield 41, 3) := by decide +kernel
theorem dX3_hungerYears_58 : decode cX3_hungerYears 58 = .ok (.iload 4, 2) := by decide +kernel
theorem dX3_hungerYears_60 : decode cX3_hungerYears 60 = .ok (.iaload, 1) := by decide +kernel
theorem dX3_hungerYears_61 : decode cX3_hungerYears 61 = .ok (.ifCond .ne 36, 3) := by decide +kernel
theorem dX3_hungerYears_64 : decode cX3_hungerYears 64 = .ok (.aload_n 0, 1) := by decide +kernel
theorem dX3_hungerYears_65 : decode cX3_hungerYears 65 = .ok (.getfield 38, 3) := by decide +kernel
theorem dX3_hungerYears_68 : decode cX3_hungerYears 68 = .ok (.iload 4, 2) := by decide +kernel
theorem dX3_hungerYears_70 : decode cX3_hungerYears 70 = .ok (.iaload, 1) := by decide +kernel
theorem dX3_hungerYears_71 : decode cX3_hungerYears 71 = .ok (.aload_n 0, 1) := by decide +kernel
theorem dX3_hungerYears_72 : decode cX3_hungerYears 72 = .ok (.getfield 46, 3) := by decide +kernel
theorem dX3_hungerYears_75 : decode cX3_hungerYears 75 = .ok (.iload 4, 2) := by decide +kernel
theorem dX3_hungerYears_77 : decode cX3_hungerYears 77 = .ok (.aaload, 1) := by decide +kernel
theorem dX3_hungerYears_78 : decode cX3_hungerYears 78 = .ok (.iload_n 3, 1) := by decide +kernel
theorem dX3_hungerYears_79 : decode cX3_hungerYears 79 = .ok (.bipush 12, 2) := by decide +kernel
theorem dX3_hungerYears_81 : decode cX3_hungerYears 81 = .ok (.idiv, 1) := by decide +kernel
theorem dX3_hungerYears_82 : decode cX3_hungerYears 82 = .ok (.iaload, 1) := by decide +kernel
theorem dX3_hungerYears_83 : decode cX3_hungerYears 83 = .ok (.if_icmp .le 14, 3) := by decide +kernel
theorem dX3_hungerYears_86 : decode cX3_hungerYears 86 = .ok (.aload_n 0, 1) := by decide +kernel
theorem dX3_hungerYears_87 : decode cX3_hungerYears 87 = .ok (.getfield 41, 3) := by decide +kernel
theorem dX3_hungerYears_90 : decode cX3_hungerYears 90 = .ok (.iload 4, 2) := by decide +kernel
theorem dX3_hungerYears_92 : decode cX3_hungerYears 92 = .ok (.iconst 1, 1) := by decide +kernel
theorem dX3_hungerYears_93 : decode cX3_hungerYears 93 = .ok (.iastore, 1) := by decide +kernel
theorem dX3_hungerYears_94 : decode cX3_hungerYears 94 = .ok (.iinc 1 1, 3) := by decide +kernel
theorem dX3_hungerYears_97 : decode cX3_hungerYears 97 = .ok (.iinc 4 1, 3) := by decide +kernel
theorem dX3_hungerYears_100 : decode cX3_hungerYears 100 = .ok (.goto (-58), 3) := by decide +kernel
theorem dX3_hungerYears_103 : decode cX3_hungerYears 103 = .ok (.iinc 2 1, 3) := by decide +kernel
theorem dX3_hungerYears_106 : decode cX3_hungerYears 106 = .ok (.goto (-102), 3) := by decide +kernel
theorem dX3_hungerYears_109 : decode cX3_hungerYears 109 = .ok (.iload_n 1, 1) := by decide +kernel
theorem dX3_hungerYears_110 : decode cX3_hungerYears 110 = .ok (.ireturn, 1) := by decide +kernel
theorem dX3_countHeads_0 : decode cX3_countHeads 0 = .ok (.aload_n 0, 1) := by decide +kernel
theorem dX3_countHeads_1 : decode cX3_countHeads 1 = .ok (.getfield 38, 3) := by decide +kernel
theorem dX3_countHeads_4 : decode cX3_countHeads 4 = .ok (.iconst 0, 1) := by decide +kernel
theorem dX3_countHeads_5 : decode cX3_countHeads 5 = .ok (.invokestatic 88, 3) := by decide +kernel
theorem dX3_countHeads_8 : decode cX3_countHeads 8 = .ok (.iconst 0, 1) := by decide +kernel
theorem dX3_countHeads_9 : decode cX3_countHeads 9 = .ok (.istore_n 2, 1) := by decide +kernel
theorem dX3_countHeads_10 : decode cX3_countHeads 10 = .ok (.iload_n 2, 1) := by decide +kernel
theorem dX3_countHeads_11 : decode cX3_countHeads 11 = .ok (.aload_n 0, 1) := by decide +kernel
theorem dX3_countHeads_12 : decode cX3_countHeads 12 = .ok (.getfield 12, 3) := by decide +kernel
theorem dX3_countHeads_15 : decode cX3_countHeads 15 = .ok (.getfield 93, 3) := by decide +kernel
theorem dX3_countHeads_18 : decode cX3_countHeads 18 = .ok (.if_icmp .ge 50, 3) := by decide +kernel
theorem dX3_countHeads_21 : decode cX3_countHeads 21 = .ok (.aload_n 0, 1) := by decide +kernel
theorem dX3_countHeads_22 : decode cX3_countHeads 22 = .ok (.getfield 27, 3) := by decide +kernel
theorem dX3_countHeads_25 : decode cX3_countHeads 25 = .ok (.aload_n 0, 1) := by decide +kernel
theorem dX3_countHeads_26 : decode cX3_countHeads 26 = .ok (.getfield 31, 3) := by decide +kernel
theorem dX3_countHeads_29 : decode cX3_countHeads 29 = .ok (.iload_n 2, 1) := by decide +kernel
theorem dX3_countHeads_30 : decode cX3_countHeads 30 = .ok (.iaload, 1) := by decide +kernel
theorem dX3_countHeads_31 : decode cX3_countHeads 31 = .ok (.aaload, 1) := by decide +kernel
theorem dX3_countHeads_32 : decode cX3_countHeads 32 = .ok (.getfield 85, 3) := by decide +kernel
theorem dX3_countHeads_35 : decode cX3_countHeads 35 = .ok (.iload_n 1, 1) := by decide +kernel
theorem dX3_countHeads_36 : decode cX3_countHeads 36 = .ok (.iaload, 1) := by decide +kernel
theorem dX3_countHeads_37 : decode cX3_countHeads 37 = .ok (.istore_n 3, 1) := by decide +kernel
theorem dX3_countHeads_38 : decode cX3_countHeads 38 = .ok (.iload_n 3, 1) := by decide +kernel
theorem dX3_countHeads_39 : decode cX3_countHeads 39 = .ok (.bipush 6, 2) := by decide +kernel
theorem dX3_countHeads_41 : decode cX3_countHeads 41 = .ok (.if_icmp .ge 21, 3) := by decide +kernel
theorem dX3_countHeads_44 : decode cX3_countHeads 44 = .ok (.aload_n 0, 1) := by decide +kernel
theorem dX3_countHeads_45 : decode cX3_countHeads 45 = .ok (.getfield 38, 3) := by decide +kernel
theorem dX3_countHeads_48 : decode cX3_countHeads 48 = .ok (.iload_n 3, 1) := by decide +kernel
theorem dX3_countHeads_49 : decode cX3_countHeads 49 = .ok (.dup2, 1) := by decide +kernel
theorem dX3_countHeads_50 : decode cX3_countHeads 50 = .ok (.iaload, 1) := by decide +kernel
theorem dX3_countHeads_51 : decode cX3_countHeads 51 = .ok (.aload_n 0, 1) := by decide +kernel
theorem dX3_countHeads_52 : decode cX3_countHeads 52 = .ok (.getfield 12, 3) := by decide +kernel
theorem dX3_countHeads_55 : decode cX3_countHeads 55 = .ok (.getfield 102, 3) := by decide +kernel
theorem dX3_countHeads_58 : decode cX3_countHeads 58 = .ok (.iload_n 2, 1) := by decide +kernel
theorem dX3_countHeads_59 : decode cX3_countHeads 59 = .ok (.iaload, 1) := by decide +kernel
theorem dX3_countHeads_60 : decode cX3_countHeads 60 = .ok (.iadd, 1) := by decide +kernel
theorem dX3_countHeads_61 : decode cX3_countHeads 61 = .ok (.iastore, 1) := by decide +kernel
theorem dX3_countHeads_62 : decode cX3_countHeads 62 = .ok (.iinc 2 1, 3) := by decide +kernel
theorem dX3_countHeads_65 : decode cX3_countHeads 65 = .ok (.goto (-55), 3) := by decide +kernel
theorem dX3_countHeads_68 : decode cX3_countHeads 68 = .ok (.return_, 1) := by decide +kernel
theorem dX3_mostHunger_0 : decode cX3_mostHunger 0 = .ok (.iconst 0, 1) := by decide +kernel
theorem dX3_mostHunger_1 : decode cX3_mostHunger 1 = .ok (.istore_n 1, 1) := by decide +kernel
theorem dX3_mostHunger_2 : decode cX3_mostHunger 2 = .ok (.iconst 0, 1) := by decide +kernel
theorem dX3_mostHunger_3 : decode cX3_mostHunger 3 = .ok (.istore_n 2, 1) := by decide +kernel
theorem dX3_mostHunger_4 : decode cX3_mostHunger 4 = .ok (.iload_n 2, 1) := by decide +kernel
theorem dX3_mostHunger_5 : decode cX3_mostHunger 5 = .ok (.aload_n 0, 1) := by decide +kernel
theorem dX3_mostHunger_6 : decode cX3_mostHunger 6 = .ok (.getfield 12, 3) := by decide +kernel
theorem dX3_mostHunger_9 : decode cX3_mostHunger 9 = .ok (.getfield 93, 3) := by decide +kernel
theorem dX3_mostHunger_12 : decode cX3_mostHunger 12 = .ok (.if_icmp .ge 21, 3) := by decide +kernel
theorem dX3_mostHunger_15 : decode cX3_mostHunger 15 = .ok (.iload_n 1, 1) := by decide +kernel
theorem dX3_mostHunger_16 : decode cX3_mostHunger 16 = .ok (.aload_n 0, 1) := by decide +kernel
theorem dX3_mostHunger_17 : decode cX3_mostHunger 17 = .ok (.getfield 12, 3) := by decide +kernel
theorem dX3_mostHunger_20 : decode cX3_mostHunger 20 = .ok (.getfield 102, 3) := by decide +kernel
theorem dX3_mostHunger_23 : decode cX3_mostHunger 23 = .ok (.iload_n 2, 1) := by decide +kernel
theorem dX3_mostHunger_24 : decode cX3_mostHunger 24 = .ok (.iaload, 1) := by decide +kernel
theorem dX3_mostHunger_25 : decode cX3_mostHunger 25 = .ok (.iadd, 1) := by decide +kernel
theorem dX3_mostHunger_26 : decode cX3_mostHunger 26 = .ok (.istore_n 1, 1) := by decide +kernel
theorem dX3_mostHunger_27 : decode cX3_mostHunger 27 = .ok (.iinc 2 1, 3) := by decide +kernel
theorem dX3_mostHunger_30 : decode cX3_mostHunger 30 = .ok (.goto (-26), 3) := by decide +kernel
theorem dX3_mostHunger_33 : decode cX3_mostHunger 33 = .ok (.iconst 0, 1) := by decide +kernel
theorem dX3_mostHunger_34 : decode cX3_mostHunger 34 = .ok (.istore_n 2, 1) := by decide +kernel
theorem dX3_mostHunger_35 : decode cX3_mostHunger 35 = .ok (.iconst 0, 1) := by decide +kernel
theorem dX3_mostHunger_36 : decode cX3_mostHunger 36 = .ok (.istore_n 3, 1) := by decide +kernel
theorem dX3_mostHunger_37 : decode cX3_mostHunger 37 = .ok (.iload_n 3, 1) := by decide +kernel
theorem dX3_mostHunger_38 : decode cX3_mostHunger 38 = .ok (.aload_n 0, 1) := by decide +kernel
theorem dX3_mostHunger_39 : decode cX3_mostHunger 39 = .ok (.getfield 12, 3) := by decide +kernel
theorem dX3_mostHunger_42 : decode cX3_mostHunger 42 = .ok (.getfield 64, 3) := by decide +kernel
theorem dX3_mostHunger_45 : decode cX3_mostHunger 45 = .ok (.if_icmp .ge 41, 3) := by decide +kernel
theorem dX3_mostHunger_48 : decode cX3_mostHunger 48 = .ok (.iconst 0, 1) := by decide +kernel
theorem dX3_mostHunger_49 : decode cX3_mostHunger 49 = .ok (.istore 4, 2) := by decide +kernel
theorem dX3_mostHunger_51 : decode cX3_mostHunger 51 = .ok (.iload 4, 2) := by decide +kernel
theorem dX3_mostHunger_53 : decode cX3_mostHunger 53 = .ok (.bipush 10, 2) := by decide +kernel
theorem dX3_mostHunger_55 : decode cX3_mostHunger 55 = .ok (.if_icmp .ge 25, 3) := by decide +kernel
theorem dX3_mostHunger_58 : decode cX3_mostHunger 58 = .ok (.iload_n 1, 1) := by decide +kernel
theorem dX3_mostHunger_59 : decode cX3_mostHunger 59 = .ok (.aload_n 0, 1) := by decide +kernel
theorem dX3_mostHunger_60 : decode cX3_mostHunger 60 = .ok (.getfield 46, 3) := by decide +kernel
theorem dX3_mostHunger_63 : decode cX3_mostHunger 63 = .ok (.iload_n 3, 1) := by decide +kernel
theorem dX3_mostHunger_64 : decode cX3_mostHunger 64 = .ok (.aaload, 1) := by decide +kernel
theorem dX3_mostHunger_65 : decode cX3_mostHunger 65 = .ok (.iload 4, 2) := by decide +kernel
theorem dX3_mostHunger_67 : decode cX3_mostHunger 67 = .ok (.iaload, 1) := by decide +kernel
theorem dX3_mostHunger_68 : decode cX3_mostHunger 68 = .ok (.if_icmp .le 6, 3) := by decide +kernel
theorem dX3_mostHunger_71 : decode cX3_mostHunger 71 = .ok (.iinc 2 1, 3) := by decide +kernel
theorem dX3_mostHunger_74 : decode cX3_mostHunger 74 = .ok (.iinc 4 1, 3) := by decide +kernel
theorem dX3_mostHunger_77 : decode cX3_mostHunger 77 = .ok (.goto (-26), 3) := by decide +kernel
theorem dX3_mostHunger_80 : decode cX3_mostHunger 80 = .ok (.iinc 3 1, 3) := by decide +kernel
theorem dX3_mostHunger_83 : decode cX3_mostHunger 83 = .ok (.goto (-46), 3) := by decide +kernel
theorem dX3_mostHunger_86 : decode cX3_mostHunger 86 = .ok (.iload_n 2, 1) := by decide +kernel
theorem dX3_mostHunger_87 : decode cX3_mostHunger 87 = .ok (.ireturn, 1) := by decide +kernel
theorem dX4_init_0 : decode cX4_init 0 = .ok (.aload_n 0, 1) := by decide +kernel
theorem dX4_init_1 : decode cX4_init 1 = .ok (.invokespecial 3, 3) := by decide +kernel
theorem dX4_init_4 : decode cX4_init 4 = .ok (.aload_n 0, 1) := by decide +kernel
theorem dX4_init_5 : decode cX4_init 5 = .ok (.bipush 6, 2) := by decide +kernel
theorem dX4_init_7 : decode cX4_init 7 = .ok (.newarray .int, 2) := by decide +kernel
theorem dX4_init_9 : decode cX4_init 9 = .ok (.putfield 9, 3) := by decide +kernel
theorem dX4_init_12 : decode cX4_init 12 = .ok (.aload_n 0, 1) := by decide +kernel
theorem dX4_init_13 : decode cX4_init 13 = .ok (.bipush 6, 2) := by decide +kernel
theorem dX4_init_15 : decode cX4_init 15 = .ok (.newarray .int, 2) := by decide +kernel
theorem dX4_init_17 : decode cX4_init 17 = .ok (.putfield 15, 3) := by decide +kernel
theorem dX4_init_20 : decode cX4_init 20 = .ok (.return_, 1) := by decide +kernel
theorem dX4_firstDayAt_0 : decode cX4_firstDayAt 0 = .ok (.aload_n 0, 1) := by decide +kernel
theorem dX4_firstDayAt_1 : decode cX4_firstDayAt 1 = .ok (.getfield 9, 3) := by decide +kernel
theorem dX4_firstDayAt_4 : decode cX4_firstDayAt 4 = .ok (.iconst (-1), 1) := by decide +kernel
theorem dX4_firstDayAt_5 : decode cX4_firstDayAt 5 = .ok (.invokestatic 18, 3) := by decide +kernel
theorem dX4_firstDayAt_8 : decode cX4_firstDayAt 8 = .ok (.aload_n 0, 1) := by decide +kernel
theorem dX4_firstDayAt_9 : decode cX4_firstDayAt 9 = .ok (.getfield 15, 3) := by decide +kernel
theorem dX4_firstDayAt_12 : decode cX4_firstDayAt 12 = .ok (.iconst 0, 1) := by decide +kernel
theorem dX4_firstDayAt_13 : decode cX4_firstDayAt 13 = .ok (.invokestatic 18, 3) := by decide +kernel
theorem dX4_firstDayAt_16 : decode cX4_firstDayAt 16 = .ok (.aload_n 0, 1) := by decide +kernel
theorem dX4_firstDayAt_17 : decode cX4_firstDayAt 17 = .ok (.getfield 9, 3) := by decide +kernel
theorem dX4_firstDayAt_20 : decode cX4_firstDayAt 20 = .ok (.iload_n 2, 1) := by decide +kernel
theorem dX4_firstDayAt_21 : decode cX4_firstDayAt 21 = .ok (.iload 4, 2) := by decide +kernel
theorem dX4_firstDayAt_23 : decode cX4_firstDayAt 23 = .ok (.iastore, 1) := by decide +kernel
theorem dX4_firstDayAt_24 : decode cX4_firstDayAt 24 = .ok (.iconst 0, 1) := by decide +kernel
theorem dX4_firstDayAt_25 : decode cX4_firstDayAt 25 = .ok (.istore 5, 2) := by decide +kernel
theorem dX4_firstDayAt_27 : decode cX4_firstDayAt 27 = .ok (.iload 5, 2) := by decide +kernel
theorem dX4_firstDayAt_29 : decode cX4_firstDayAt 29 = .ok (.aload_n 1, 1) := by decide +kernel
theorem dX4_firstDayAt_30 : decode cX4_firstDayAt 30 = .ok (.getfield 24, 3) := by decide +kernel
theorem dX4_firstDayAt_33 : decode cX4_firstDayAt 33 = .ok (.if_icmp .ge 36, 3) := by decide +kernel
theorem dX4_firstDayAt_36 : decode cX4_firstDayAt 36 = .ok (.aload_n 0, 1) := by decide +kernel
theorem dX4_firstDayAt_37 : decode cX4_firstDayAt 37 = .ok (.invokevirtual 30, 3) := by decide +kernel
theorem dX4_firstDayAt_40 : decode cX4_firstDayAt 40 = .ok (.istore 6, 2) := by decide +kernel
theorem dX4_firstDayAt_42 : decode cX4_firstDayAt 42 = .ok (.iload 6, 2) := by decide +kernel
theorem dX4_firstDayAt_44 : decode cX4_firstDayAt 44 = .ok (.iconst (-1), 1) := by decide +kernel
theorem dX4_firstDayAt_45 : decode cX4_firstDayAt 45 = .ok (.if_icmp .eq 18, 3) := by decide +kernel
theorem dX4_firstDayAt_48 : decode cX4_firstDayAt 48 = .ok (.aload_n 0, 1) := by decide +kernel
theorem dX4_firstDayAt_49 : decode cX4_firstDayAt 49 = .ok (.getfield 15, 3) := by decide +kernel
theorem dX4_firstDayAt_52 : decode cX4_firstDayAt 52 = .ok (.iload 6, 2) := by decide +kernel
theorem dX4_firstDayAt_54 : decode cX4_firstDayAt 54 = .ok (.iconst 1, 1) := by decide +kernel
theorem dX4_firstDayAt_55 : decode cX4_firstDayAt 55 = .ok (.iastore, 1) := by decide +kernel
theorem dX4_firstDayAt_56 : decode cX4_firstDayAt 56 = .ok (.aload_n 0, 1) := by decide +kernel
theorem dX4_firstDayAt_57 : decode cX4_firstDayAt 57 = .ok (.aload_n 1, 1) := by decide +kernel
theorem dX4_firstDayAt_58 : decode cX4_firstDayAt 58 = .ok (.iload 6, 2) := by decide +kernel
theorem dX4_firstDayAt_60 : decode cX4_firstDayAt 60 = .ok (.invokevirtual 34, 3) := by decide +kernel
theorem dX4_firstDayAt_63 : decode cX4_firstDayAt 63 = .ok (.iinc 5 1, 3) := by decide +kernel
theorem dX4_firstDayAt_66 : decode cX4_firstDayAt 66 = .ok (.goto (-39), 3) := by decide +kernel
theorem dX4_firstDayAt_69 : decode cX4_firstDayAt 69 = .ok (.aload_n 0, 1) := by decide +kernel
theorem dX4_firstDayAt_70 : decode cX4_firstDayAt 70 = .ok (.getfield 9, 3) := by decide +kernel
theorem dX4_firstDayAt_73 : decode cX4_firstDayAt 73 = .ok (.iload_n 3, 1) := by decide +kernel
theorem dX4_firstDayAt_74 : decode cX4_firstDayAt 74 = .ok (.iaload, 1) := by decide +kernel
theorem dX4_firstDayAt_75 : decode cX4_firstDayAt 75 = .ok (.ireturn, 1) := by decide +kernel
theorem dX4_soonest_0 : decode cX4_soonest 0 = .ok (.iconst (-1), 1) := by decide +kernel
theorem dX4_soonest_1 : decode cX4_soonest 1 = .ok (.istore_n 1, 1) := by decide +kernel
theorem dX4_soonest_2 : decode cX4_soonest 2 = .ok (.iconst 0, 1) := by decide +kernel
theorem dX4_soonest_3 : decode cX4_soonest 3 = .ok (.istore_n 2, 1) := by decide +kernel
theorem dX4_soonest_4 : decode cX4_soonest 4 = .ok (.iload_n 2, 1) := by decide +kernel
theorem dX4_soonest_5 : decode cX4_soonest 5 = .ok (.bipush 6, 2) := by decide +kernel
theorem dX4_soonest_7 : decode cX4_soonest 7 = .ok (.if_icmp .ge 50, 3) := by decide +kernel
theorem dX4_soonest_10 : decode cX4_soonest 10 = .ok (.aload_n 0, 1) := by decide +kernel
theorem dX4_soonest_11 : decode cX4_soonest 11 = .ok (.getfield 15, 3) := by decide +kernel
theorem dX4_soonest_14 : decode cX4_soonest 14 = .ok (.iload_n 2, 1) := by decide +kernel
theorem dX4_soonest_15 : decode cX4_soonest 15 = .ok (.iaload, 1) := by decide +kernel
theorem dX4_soonest_16 : decode cX4_soonest 16 = .ok (.ifCond .ne 35, 3) := by decide +kernel
theorem dX4_soonest_19 : decode cX4_soonest 19 = .ok (.aload_n 0, 1) := by decide +kernel
theorem dX4_soonest_20 : decode cX4_soonest 20 = .ok (.getfield 9, 3) := by decide +kernel
theorem dX4_soonest_23 : decode cX4_soonest 23 = .ok (.iload_n 2, 1) := by decide +kernel
theorem dX4_soonest_24 : decode cX4_soonest 24 = .ok (.iaload, 1) := by decide +kernel
theorem dX4_soonest_25 : decode cX4_soonest 25 = .ok (.iconst (-1), 1) := by decide +kernel
theorem dX4_soonest_26 : decode cX4_soonest 26 = .ok (.if_icmp .eq 25, 3) := by decide +kernel
theorem dX4_soonest_29 : decode cX4_soonest 29 = .ok (.iload_n 1, 1) := by decide +kernel
theorem dX4_soonest_30 : decode cX4_soonest 30 = .ok (.iconst (-1), 1) := by decide +kernel
theorem dX4_soonest_31 : decode cX4_soonest 31 = .ok (.if_icmp .eq 18, 3) := by decide +kernel
theorem dX4_soonest_34 : decode cX4_soonest 34 = .ok (.aload_n 0, 1) := by decide +kernel
theorem dX4_soonest_35 : decode cX4_soonest 35 = .ok (.getfield 9, 3) := by decide +kernel
theorem dX4_soonest_38 : decode cX4_soonest 38 = .ok (.iload_n 2, 1) := by decide +kernel
theorem dX4_soonest_39 : decode cX4_soonest 39 = .ok (.iaload, 1) := by decide +kernel
theorem dX4_soonest_40 : decode cX4_soonest 40 = .ok (.aload_n 0, 1) := by decide +kernel
theorem dX4_soonest_41 : decode cX4_soonest 41 = .ok (.getfield 9, 3) := by decide +kernel
theorem dX4_soonest_44 : decode cX4_soonest 44 = .ok (.iload_n 1, 1) := by decide +kernel
theorem dX4_soonest_45 : decode cX4_soonest 45 = .ok (.iaload, 1) := by decide +kernel
theorem dX4_soonest_46 : decode cX4_soonest 46 = .ok (.if_icmp .ge 5, 3) := by decide +kernel
theorem dX4_soonest_49 : decode cX4_soonest 49 = .ok (.iload_n 2, 1) := by decide +kernel
theorem dX4_soonest_50 : decode cX4_soonest 50 = .ok (.istore_n 1, 1) := by decide +kernel
theorem dX4_soonest_51 : decode cX4_soonest 51 = .ok (.iinc 2 1, 3) := by decide +kernel
theorem dX4_soonest_54 : decode cX4_soonest 54 = .ok (.goto (-50), 3) := by decide +kernel
theorem dX4_soonest_57 : decode cX4_soonest 57 = .ok (.iload_n 1, 1) := by decide +kernel
theorem dX4_soonest_58 : decode cX4_soonest 58 = .ok (.ireturn, 1) := by decide +kernel
theorem dX4_sailOnFrom_0 : decode cX4_sailOnFrom 0 = .ok (.iconst 0, 1) := by decide +kernel
theorem dX4_sailOnFrom_1 : decode cX4_sailOnFrom 1 = .ok (.istore_n 3, 1) := by decide +kernel
theorem dX4_sailOnFrom_2 : decode cX4_sailOnFrom 2 = .ok (.iload_n 3, 1) := by decide +kernel
theorem dX4_sailOnFrom_3 : decode cX4_sailOnFrom 3 = .ok (.aload_n 1, 1) := by decide +kernel
theorem dX4_sailOnFrom_4 : decode cX4_sailOnFrom 4 = .ok (.getfield 24, 3) := by decide +kernel
theorem dX4_sailOnFrom_7 : decode cX4_sailOnFrom 7 = .ok (.if_icmp .ge 79, 3) := by decide +kernel
theorem dX4_sailOnFrom_10 : decode cX4_sailOnFrom 10 = .ok (.aload_n 1, 1) := by decide +kernel
theorem dX4_sailOnFrom_11 : decode cX4_sailOnFrom 11 = .ok (.getfield 38, 3) := by decide +kernel
theorem dX4_sailOnFrom_14 : decode cX4_sailOnFrom 14 = .ok (.iload_n 2, 1) := by decide +kernel
theorem dX4_sailOnFrom_15 : decode cX4_sailOnFrom 15 = .ok (.aaload, 1) := by decide +kernel
theorem dX4_sailOnFrom_16 : decode cX4_sailOnFrom 16 = .ok (.iload_n 3, 1) := by decide +kernel
theorem dX4_sailOnFrom_17 : decode cX4_sailOnFrom 17 = .ok (.iaload, 1) := by decide +kernel
theorem dX4_sailOnFrom_18 : decode cX4_sailOnFrom 18 = .ok (.istore 4, 2) := by decide +kernel
theorem dX4_sailOnFrom_20 : decode cX4_sailOnFrom 20 = .ok (.iload 4, 2) := by decide +kernel
theorem dX4_sailOnFrom_22 : decode cX4_sailOnFrom 22 = .ok (.ifCond .le 58, 3) := by decide +kernel
theorem dX4_sailOnFrom_25 : decode cX4_sailOnFrom 25 = .ok (.aload_n 0, 1) := by decide +kernel
theorem dX4_sailOnFrom_26 : decode cX4_sailOnFrom 26 = .ok (.getfield 15, 3) := by decide +kernel
theorem dX4_sailOnFrom_29 : decode cX4_sailOnFrom 29 = .ok (.iload_n 3, 1) := by decide +kernel
theorem dX4_sailOnFrom_30 : decode cX4_sailOnFrom 30 = .ok (.iaload, 1) := by decide +kernel
theorem dX4_sailOnFrom_31 : decode cX4_sailOnFrom 31 = .ok (.ifCond .ne 49, 3) := by decide +kernel
theorem dX4_sailOnFrom_34 : decode cX4_sailOnFrom 34 = .ok (.aload_n 1, 1) := by decide +kernel
theorem dX4_sailOnFrom_35 : decode cX4_sailOnFrom 35 = .ok (.getfield 42, 3) := by decide +kernel
theorem dX4_sailOnFrom_38 : decode cX4_sailOnFrom 38 = .ok (.aload_n 0, 1) := by decide +kernel
theorem dX4_sailOnFrom_39 : decode cX4_sailOnFrom 39 = .ok (.getfield 9, 3) := by decide +kernel
theorem dX4_sailOnFrom_42 : decode cX4_sailOnFrom 42 = .ok (.iload_n 2, 1) := by decide +kernel
theorem dX4_sailOnFrom_43 : decode cX4_sailOnFrom 43 = .ok (.iaload, 1) := by decide +kernel
theorem dX4_sailOnFrom_44 : decode cX4_sailOnFrom 44 = .ok (.iload 4, 2) := by decide +kernel
theorem dX4_sailOnFrom_46 : decode cX4_sailOnFrom 46 = .ok (.invokestatic 45, 3) := by decide +kernel
theorem dX4_sailOnFrom_49 : decode cX4_sailOnFrom 49 = .ok (.istore 5, 2) := by decide +kernel
theorem dX4_sailOnFrom_51 : decode cX4_sailOnFrom 51 = .ok (.aload_n 0, 1) := by decide +kernel
theorem dX4_sailOnFrom_52 : decode cX4_sailOnFrom 52 = .ok (.getfield 9, 3) := by decide +kernel
theorem dX4_sailOnFrom_55 : decode cX4_sailOnFrom 55 = .ok (.iload_n 3, 1) := by decide +kernel
theorem dX4_sailOnFrom_56 : decode cX4_sailOnFrom 56 = .ok (.iaload, 1) := by decide +kernel
theorem dX4_sailOnFrom_57 : decode cX4_sailOnFrom 57 = .ok (.iconst (-1), 1) := by decide +kernel
theorem dX4_sailOnFrom_58 : decode cX4_sailOnFrom 58 = .ok (.if_icmp .eq 14, 3) := by decide +kernel
theorem dX4_sailOnFrom_61 : decode cX4_sailOnFrom 61 = .ok (.iload 5, 2) := by decide +kernel
theorem dX4_sailOnFrom_63 : decode cX4_sailOnFrom 63 = .ok (.aload_n 0, 1) := by decide +kernel
theorem dX4_sailOnFrom_64 : decode cX4_sailOnFrom 64 = .ok (.getfield 9, 3) := by decide +kernel
theorem dX4_sailOnFrom_67 : decode cX4_sailOnFrom 67 = .ok (.iload_n 3, 1) := by decide +kernel
theorem dX4_sailOnFrom_68 : decode cX4_sailOnFrom 68 = .ok (.iaload, 1) := by decide +kernel
theorem dX4_sailOnFrom_69 : decode cX4_sailOnFrom 69 = .ok (.if_icmp .ge 11, 3) := by decide +kernel
theorem dX4_sailOnFrom_72 : decode cX4_sailOnFrom 72 = .ok (.aload_n 0, 1) := by decide +kernel
theorem dX4_sailOnFrom_73 : decode cX4_sailOnFrom 73 = .ok (.getfield 9, 3) := by decide +kernel
theorem dX4_sailOnFrom_76 : decode cX4_sailOnFrom 76 = .ok (.iload_n 3, 1) := by decide +kernel
theorem dX4_sailOnFrom_77 : decode cX4_sailOnFrom 77 = .ok (.iload 5, 2) := by decide +kernel
theorem dX4_sailOnFrom_79 : decode cX4_sailOnFrom 79 = .ok (.iastore, 1) := by decide +kernel
theorem dX4_sailOnFrom_80 : decode cX4_sailOnFrom 80 = .ok (.iinc 3 1, 3) := by decide +kernel
theorem dX4_sailOnFrom_83 : decode cX4_sailOnFrom 83 = .ok (.goto (-81), 3) := by decide +kernel
theorem dX4_sailOnFrom_86 : decode cX4_sailOnFrom 86 = .ok (.return_, 1) := by decide +kernel
theorem dX4_endOfLeg_0 : decode cX4_endOfLeg 0 = .ok (.iload_n 1, 1) := by decide +kernel
theorem dX4_endOfLeg_1 : decode cX4_endOfLeg 1 = .ok (.istore_n 3, 1) := by decide +kernel
theorem dX4_endOfLeg_2 : decode cX4_endOfLeg 2 = .ok (.iload_n 2, 1) := by decide +kernel
theorem dX4_endOfLeg_3 : decode cX4_endOfLeg 3 = .ok (.istore 4, 2) := by decide +kernel
theorem dX4_endOfLeg_5 : decode cX4_endOfLeg 5 = .ok (.iload_n 3, 1) := by decide +kernel
theorem dX4_endOfLeg_6 : decode cX4_endOfLeg 6 = .ok (.aload_n 0, 1) := by decide +kernel
theorem dX4_endOfLeg_7 : decode cX4_endOfLeg 7 = .ok (.arraylength, 1) := by decide +kernel
theorem dX4_endOfLeg_8 : decode cX4_endOfLeg 8 = .ok (.if_icmp .ge 23, 3) := by decide +kernel
theorem dX4_endOfLeg_11 : decode cX4_endOfLeg 11 = .ok (.iload 4, 2) := by decide +kernel
theorem dX4_endOfLeg_13 : decode cX4_endOfLeg 13 = .ok (.ifCond .le 18, 3) := by decide +kernel
theorem dX4_endOfLeg_16 : decode cX4_endOfLeg 16 = .ok (.aload_n 0, 1) := by decide +kernel
theorem dX4_endOfLeg_17 : decode cX4_endOfLeg 17 = .ok (.iload_n 3, 1) := by decide +kernel
theorem dX4_endOfLeg_18 : decode cX4_endOfLeg 18 = .ok (.iaload, 1) := by decide +kernel
theorem dX4_endOfLeg_19 : decode cX4_endOfLeg 19 = .ok (.ifCond .ne 6, 3) := by decide +kernel
theorem dX4_endOfLeg_22 : decode cX4_endOfLeg 22 = .ok (.iinc 4 (-1), 3) := by decide +kernel
theorem dX4_endOfLeg_25 : decode cX4_endOfLeg 25 = .ok (.iinc 3 1, 3) := by decide +kernel
theorem dX4_endOfLeg_28 : decode cX4_endOfLeg 28 = .ok (.goto (-23), 3) := by decide +kernel
theorem dX4_endOfLeg_31 : decode cX4_endOfLeg 31 = .ok (.iload_n 3, 1) := by decide +kernel
theorem dX4_endOfLeg_32 : decode cX4_endOfLeg 32 = .ok (.iload 4, 2) := by decide +kernel
theorem dX4_endOfLeg_34 : decode cX4_endOfLeg 34 = .ok (.iadd, 1) := by decide +kernel
theorem dX4_endOfLeg_35 : decode cX4_endOfLeg 35 = .ok (.ireturn, 1) := by decide +kernel
theorem dX5_init_0 : decode cX5_init 0 = .ok (.aload_n 0, 1) := by decide +kernel
theorem dX5_init_1 : decode cX5_init 1 = .ok (.invokespecial 3, 3) := by decide +kernel
theorem dX5_init_4 : decode cX5_init 4 = .ok (.aload_n 0, 1) := by decide +kernel
theorem dX5_init_5 : decode cX5_init 5 = .ok (.bipush 6, 2) := by decide +kernel
theorem dX5_init_7 : decode cX5_init 7 = .ok (.newarray .int, 2) := by decide +kernel
theorem dX5_init_9 : decode cX5_init 9 = .ok (.putfield 9, 3) := by decide +kernel
theorem dX5_init_12 : decode cX5_init 12 = .ok (.aload_n 0, 1) := by decide +kernel
theorem dX5_init_13 : decode cX5_init 13 = .ok (.bipush 10, 2) := by decide +kernel
theorem dX5_init_15 : decode cX5_init 15 = .ok (.newarray .int, 2) := by decide +kernel
theorem dX5_init_17 : decode cX5_init 17 = .ok (.putfield 15, 3) := by decide +kernel
theorem dX5_init_20 : decode cX5_init 20 = .ok (.aload_n 0, 1) := by decide +kernel
theorem dX5_init_21 : decode cX5_init 21 = .ok (.iconst 4, 1) := by decide +kernel
theorem dX5_init_22 : decode cX5_init 22 = .ok (.newarray .int, 2) := by decide +kernel
theorem dX5_init_24 : decode cX5_init 24 = .ok (.putfield 18, 3) := by decide +kernel
theorem dX5_init_27 : decode cX5_init 27 = .ok (.aload_n 0, 1) := by decide +kernel
theorem dX5_init_28 : decode cX5_init 28 = .ok (.iconst 2, 1) := by decide +kernel
theorem dX5_init_29 : decode cX5_init 29 = .ok (.newarray .int, 2) := by decide +kernel
theorem dX5_init_31 : decode cX5_init 31 = .ok (.putfield 21, 3) := by decide +kernel
theorem dX5_init_34 : decode cX5_init 34 = .ok (.aload_n 0, 1) := by decide +kernel
theorem dX5_init_35 : decode cX5_init 35 = .ok (.iconst 4, 1) := by decide +kernel
theorem dX5_init_36 : decode cX5_init 36 = .ok (.iconst 2, 1) := by decide +kernel
theorem dX5_init_37 : decode cX5_init 37 = .ok (.multianewarray 24 2, 4) := by decide +kernel
theorem dX5_init_41 : decode cX5_init 41 = .ok (.putfield 26, 3) := by decide +kernel
theorem dX5_init_44 : decode cX5_init 44 = .ok (.aload_n 0, 1) := by decide +kernel
theorem dX5_init_45 : decode cX5_init 45 = .ok (.iconst 4, 1) := by decide +kernel
theorem dX5_init_46 : decode cX5_init 46 = .ok (.newarray .int, 2) := by decide +kernel
theorem dX5_init_48 : decode cX5_init 48 = .ok (.putfield 29, 3) := by decide +kernel
theorem dX5_init_51 : decode cX5_init 51 = .ok (.aload_n 0, 1) := by decide +kernel
theorem dX5_init_52 : decode cX5_init 52 = .ok (.iconst 4, 1) := by decide +kernel
theorem dX5_init_53 : decode cX5_init 53 = .ok (.newarray .int, 2) := by decide +kernel
theorem dX5_init_55 : decode cX5_init 55 = .ok (.putfield 32, 3) := by decide +kernel
theorem dX5_init_58 : decode cX5_init 58 = .ok (.aload_n 0, 1) := by decide +kernel
theorem dX5_init_59 : decode cX5_init 59 = .ok (.iconst 4, 1) := by decide +kernel
theorem dX5_init_60 : decode cX5_init 60 = .ok (.bipush 120, 2) := by decide +kernel
theorem dX5_init_62 : decode cX5_init 62 = .ok (.multianewarray 24 2, 4) := by decide +kernel
theorem dX5_init_66 : decode cX5_init 66 = .ok (.putfield 35, 3) := by decide +kernel
theorem dX5_init_69 : decode cX5_init 69 = .ok (.aload_n 0, 1) := by decide +kernel
theorem dX5_init_70 : decode cX5_init 70 = .ok (.bipush 6, 2) := by decide +kernel
theorem dX5_init_72 : decode cX5_init 72 = .ok (.iconst 4, 1) := by decide +kernel
theorem dX5_init_73 : decode cX5_init 73 = .ok (.multianewarray 24 2, 4) := by decide +kernel
theorem dX5_init_77 : decode cX5_init 77 = .ok (.putfield 38, 3) := by decide +kernel
theorem dX5_init_80 : decode cX5_init 80 = .ok (.aload_n 0, 1) := by decide +kernel
theorem dX5_init_81 : decode cX5_init 81 = .ok (.iconst 3, 1) := by decide +kernel
theorem dX5_init_82 : decode cX5_init 82 = .ok (.newarray .int, 2) := by decide +kernel
theorem dX5_init_84 : decode cX5_init 84 = .ok (.putfield 41, 3) := by decide +kernel
theorem dX5_init_87 : decode cX5_init 87 = .ok (.aload_n 0, 1) := by decide +kernel
theorem dX5_init_88 : decode cX5_init 88 = .ok (.bipush 6, 2) := by decide +kernel
theorem dX5_init_90 : decode cX5_init 90 = .ok (.iconst 5, 1) := by decide +kernel
theorem dX5_init_91 : decode cX5_init 91 = .ok (.multianewarray 24 2, 4) := by decide +kernel
theorem dX5_init_95 : decode cX5_init 95 = .ok (.putfield 44, 3) := by decide +kernel
theorem dX5_init_98 : decode cX5_init 98 = .ok (.aload_n 0, 1) := by decide +kernel
theorem dX5_init_99 : decode cX5_init 99 = .ok (.bipush 6, 2) := by decide +kernel
theorem dX5_init_101 : decode cX5_init 101 = .ok (.bipush 6, 2) := by decide +kernel
theorem dX5_init_103 : decode cX5_init 103 = .ok (.multianewarray 24 2, 4) := by decide +kernel
theorem dX5_init_107 : decode cX5_init 107 = .ok (.putfield 47, 3) := by decide +kernel
theorem dX5_init_110 : decode cX5_init 110 = .ok (.aload_n 0, 1) := by decide +kernel
theorem dX5_init_111 : decode cX5_init 111 = .ok (.bipush 60, 2) := by decide +kernel
theorem dX5_init_113 : decode cX5_init 113 = .ok (.newarray .int, 2) := by decide +kernel
theorem dX5_init_115 : decode cX5_init 115 = .ok (.putfield 50, 3) := by decide +kernel
theorem dX5_init_118 : decode cX5_init 118 = .ok (.aload_n 0, 1) := by decide +kernel
theorem dX5_init_119 : decode cX5_init 119 = .ok (.getfield 15, 3) := by decide +kernel
theorem dX5_init_122 : decode cX5_init 122 = .ok (.iconst 5, 1) := by decide +kernel
theorem dX5_init_123 : decode cX5_init 123 = .ok (.invokestatic 53, 3) := by decide +kernel
theorem dX5_init_126 : decode cX5_init 126 = .ok (.aload_n 0, 1) := by decide +kernel
theorem dX5_init_127 : decode cX5_init 127 = .ok (.getfield 29, 3) := by decide +kernel
theorem dX5_init_130 : decode cX5_init 130 = .ok (.iconst 1, 1) := by decide +kernel
theorem dX5_init_131 : decode cX5_init 131 = .ok (.invokestatic 53, 3) := by decide +kernel
theorem dX5_init_134 : decode cX5_init 134 = .ok (.aload_n 0, 1) := by decide +kernel
theorem dX5_init_135 : decode cX5_init 135 = .ok (.getfield 21, 3) := by decide +kernel
theorem dX5_init_138 : decode cX5_init 138 = .ok (.iconst 0, 1) := by decide +kernel
theorem dX5_init_139 : decode cX5_init 139 = .ok (.bipush 6, 2) := by decide +kernel
theorem dX5_init_141 : decode cX5_init 141 = .ok (.iastore, 1) := by decide +kernel
theorem dX5_init_142 : decode cX5_init 142 = .ok (.aload_n 0, 1) := by decide +kernel
theorem dX5_init_143 : decode cX5_init 143 = .ok (.getfield 21, 3) := by decide +kernel
theorem dX5_init_146 : decode cX5_init 146 = .ok (.iconst 1, 1) := by decide +kernel
theorem dX5_init_147 : decode cX5_init 147 = .ok (.bipush 9, 2) := by decide +kernel
theorem dX5_init_149 : decode cX5_init 149 = .ok (.iastore, 1) := by decide +kernel
theorem dX5_init_150 : decode cX5_init 150 = .ok (.aload_n 0, 1) := by decide +kernel
theorem dX5_init_151 : decode cX5_init 151 = .ok (.getfield 41, 3) := by decide +kernel
theorem dX5_init_154 : decode cX5_init 154 = .ok (.iconst 1, 1) := by decide +kernel
theorem dX5_init_155 : decode cX5_init 155 = .ok (.iconst (-1), 1) := by decide +kernel
theorem dX5_init_156 : decode cX5_init 156 = .ok (.iastore, 1) := by decide +kernel
theorem dX5_init_157 : decode cX5_init 157 = .ok (.iconst 0, 1) := by decide +kernel
theorem dX5_init_158 : decode cX5_init 158 = .ok (.istore_n 1, 1) := by decide +kernel
theorem dX5_init_159 : decode cX5_init 159 = .ok (.iload_n 1, 1) := by decide +kernel
theorem dX5_init_160 : decode cX5_init 160 = .ok (.iconst 4, 1) := by decide +kernel
theorem dX5_init_161 : decode cX5_init 161 = .ok (.if_icmp .ge 19, 3) := by decide +kernel
theorem dX5_init_164 : decode cX5_init 164 = .ok (.aload_n 0, 1) := by decide +kernel
theorem dX5_init_165 : decode cX5_init 165 = .ok (.getfield 26, 3) := by decide +kernel
theorem dX5_init_168 : decode cX5_init 168 = .ok (.iload_n 1, 1) := by decide +kernel
theorem dX5_init_169 : decode cX5_init 169 = .ok (.aaload, 1) := by decide +kernel
theorem dX5_init_170 : decode cX5_init 170 = .ok (.iconst 0, 1) := by decide +kernel
theorem dX5_init_171 : decode cX5_init 171 = .ok (.bipush 100, 2) := by decide +kernel
theorem dX5_init_173 : decode cX5_init 173 = .ok (.iastore, 1) := by decide +kernel
theorem dX5_init_174 : decode cX5_init 174 = .ok (.iinc 1 1, 3) := by decide +kernel
theorem dX5_init_177 : decode cX5_init 177 = .ok (.goto (-18), 3) := by decide +kernel
theorem dX5_init_180 : decode cX5_init 180 = .ok (.return_, 1) := by decide +kernel
theorem dX5_copy_0 : decode cX5_copy 0 = .ok (.aload_n 0, 1) := by decide +kernel
theorem dX5_copy_1 : decode cX5_copy 1 = .ok (.aload_n 1, 1) := by decide +kernel
theorem dX5_copy_2 : decode cX5_copy 2 = .ok (.getfield 59, 3) := by decide +kernel
theorem dX5_copy_5 : decode cX5_copy 5 = .ok (.putfield 59, 3) := by decide +kernel
theorem dX5_copy_8 : decode cX5_copy 8 = .ok (.aload_n 0, 1) := by decide +kernel
theorem dX5_copy_9 : decode cX5_copy 9 = .ok (.aload_n 1, 1) := by decide +kernel
theorem dX5_copy_10 : decode cX5_copy 10 = .ok (.getfield 63, 3) := by decide +kernel
theorem dX5_copy_13 : decode cX5_copy 13 = .ok (.putfield 63, 3) := by decide +kernel
theorem dX5_copy_16 : decode cX5_copy 16 = .ok (.aload_n 0, 1) := by decide +kernel
theorem dX5_copy_17 : decode cX5_copy 17 = .ok (.aload_n 1, 1) := by decide +kernel
theorem dX5_copy_18 : decode cX5_copy 18 = .ok (.getfield 66, 3) := by decide +kernel
theorem dX5_copy_21 : decode cX5_copy 21 = .ok (.putfield 66, 3) := by decide +kernel
theorem dX5_copy_24 : decode cX5_copy 24 = .ok (.aload_n 0, 1) := by decide +kernel
theorem dX5_copy_25 : decode cX5_copy 25 = .ok (.aload_n 1, 1) := by decide +kernel
theorem dX5_copy_26 : decode cX5_copy 26 = .ok (.getfield 69, 3) := by decide +kernel
theorem dX5_copy_29 : decode cX5_copy 29 = .ok (.putfield 69, 3) := by decide +kernel
theorem dX5_copy_32 : decode cX5_copy 32 = .ok (.aload_n 1, 1) := by decide +kernel
theorem dX5_copy_33 : decode cX5_copy 33 = .ok (.getfield 9, 3) := by decide +kernel
theorem dX5_copy_36 : decode cX5_copy 36 = .ok (.aload_n 0, 1) := by decide +kernel
theorem dX5_copy_37 : decode cX5_copy 37 = .ok (.getfield 9, 3) := by decide +kernel
theorem dX5_copy_40 : decode cX5_copy 40 = .ok (.invokestatic 72, 3) := by decide +kernel
theorem dX5_copy_43 : decode cX5_copy 43 = .ok (.aload_n 1, 1) := by decide +kernel
theorem dX5_copy_44 : decode cX5_copy 44 = .ok (.getfield 15, 3) := by decide +kernel
theorem dX5_copy_47 : decode cX5_copy 47 = .ok (.aload_n 0, 1) := by decide +kernel
theorem dX5_copy_48 : decode cX5_copy 48 = .ok (.getfield 15, 3) := by decide +kernel
theorem dX5_copy_51 : decode cX5_copy 51 = .ok (.invokestatic 72, 3) := by decide +kernel
theorem dX5_copy_54 : decode cX5_copy 54 = .ok (.aload_n 1, 1) := by decide +kernel
theorem dX5_copy_55 : decode cX5_copy 55 = .ok (.getfield 18, 3) := by decide +kernel
theorem dX5_copy_58 : decode cX5_copy 58 = .ok (.aload_n 0, 1) := by decide +kernel
theorem dX5_copy_59 : decode cX5_copy 59 = .ok (.getfield 18, 3) := by decide +kernel
theorem dX5_copy_62 : decode cX5_copy 62 = .ok (.invokestatic 72, 3) := by decide +kernel
theorem dX5_copy_65 : decode cX5_copy 65 = .ok (.aload_n 1, 1) := by decide +kernel
theorem dX5_copy_66 : decode cX5_copy 66 = .ok (.getfield 21, 3) := by decide +kernel
theorem dX5_copy_69 : decode cX5_copy 69 = .ok (.aload_n 0, 1) := by decide +kernel
theorem dX5_copy_70 : decode cX5_copy 70 = .ok (.getfield 21, 3) := by decide +kernel
theorem dX5_copy_73 : decode cX5_copy 73 = .ok (.invokestatic 72, 3) := by decide +kernel
theorem dX5_copy_76 : decode cX5_copy 76 = .ok (.aload_n 1, 1) := by decide +kernel
theorem dX5_copy_77 : decode cX5_copy 77 = .ok (.getfield 26, 3) := by decide +kernel
theorem dX5_copy_80 : decode cX5_copy 80 = .ok (.aload_n 0, 1) := by decide +kernel
theorem dX5_copy_81 : decode cX5_copy 81 = .ok (.getfield 26, 3) := by decide +kernel
theorem dX5_copy_84 : decode cX5_copy 84 = .ok (.invokestatic 76, 3) := by decide +kernel
theorem dX5_copy_87 : decode cX5_copy 87 = .ok (.aload_n 1, 1) := by decide +kernel
theorem dX5_copy_88 : decode cX5_copy 88 = .ok (.getfield 29, 3) := by decide +kernel
theorem dX5_copy_91 : decode cX5_copy 91 = .ok (.aload_n 0, 1) := by decide +kernel
theorem dX5_copy_92 : decode cX5_copy 92 = .ok (.getfield 29, 3) := by decide +kernel
theorem dX5_copy_95 : decode cX5_copy 95 = .ok (.invokestatic 72, 3) := by decide +kernel
theorem dX5_copy_98 : decode cX5_copy 98 = .ok (.aload_n 1, 1) := by decide +kernel
theorem dX5_copy_99 : decode cX5_copy 99 = .ok (.getfield 32, 3) := by decide +kernel
theorem dX5_copy_102 : decode cX5_copy 102 = .ok (.aload_n 0, 1) := by decide +kernel
theorem dX5_copy_103 : decode cX5_copy 103 = .ok (.getfield 32, 3) := by decide +kernel
theorem dX5_copy_106 : decode cX5_copy 106 = .ok (.invokestatic 72, 3) := by decide +kernel
theorem dX5_copy_109 : decode cX5_copy 109 = .ok (.aload_n 1, 1) := by decide +kernel
theorem dX5_copy_110 : decode cX5_copy 110 = .ok (.getfield 35, 3) := by decide +kernel
theorem dX5_copy_113 : decode cX5_copy 113 = .ok (.aload_n 0, 1) := by decide +kernel
theorem dX5_copy_114 : decode cX5_copy 114 = .ok (.getfield 35, 3) := by decide +kernel
theorem dX5_copy_117 : decode cX5_copy 117 = .ok (.invokestatic 76, 3) := by decide +kernel
theorem dX5_copy_120 : decode cX5_copy 120 = .ok (.aload_n 1, 1) := by decide +kernel
theorem dX5_copy_121 : decode cX5_copy 121 = .ok (.getfield 38, 3) := by decide +kernel
theorem dX5_copy_124 : decode cX5_copy 124 = .ok (.aload_n 0, 1) := by decide +kernel
theorem dX5_copy_125 : decode cX5_copy 125 = .ok (.getfield 38, 3) := by decide +kernel
theorem dX5_copy_128 : decode cX5_copy 128 = .ok (.invokestatic 76, 3) := by decide +kernel
theorem dX5_copy_131 : decode cX5_copy 131 = .ok (.aload_n 1, 1) := by decide +kernel
theorem dX5_copy_132 : decode cX5_copy 132 = .ok (.getfield 41, 3) := by decide +kernel
theorem dX5_copy_135 : decode cX5_copy 135 = .ok (.aload_n 0, 1) := by decide +kernel
theorem dX5_copy_136 : decode cX5_copy 136 = .ok (.getfield 41, 3) := by decide +kernel
theorem dX5_copy_139 : decode cX5_copy 139 = .ok (.invokestatic 72, 3) := by decide +kernel
theorem dX5_copy_142 : decode cX5_copy 142 = .ok (.aload_n 1, 1) := by decide +kernel
theorem dX5_copy_143 : decode cX5_copy 143 = .ok (.getfield 44, 3) := by decide +kernel
theorem dX5_copy_146 : decode cX5_copy 146 = .ok (.aload_n 0, 1) := by decide +kernel
theorem dX5_copy_147 : decode cX5_copy 147 = .ok (.getfield 44, 3) := by decide +kernel
theorem dX5_copy_150 : decode cX5_copy 150 = .ok (.invokestatic 76, 3) := by decide +kernel
theorem dX5_copy_153 : decode cX5_copy 153 = .ok (.aload_n 1, 1) := by decide +kernel
theorem dX5_copy_154 : decode cX5_copy 154 = .ok (.getfield 47, 3) := by decide +kernel
theorem dX5_copy_157 : decode cX5_copy 157 = .ok (.aload_n 0, 1) := by decide +kernel
theorem dX5_copy_158 : decode cX5_copy 158 = .ok (.getfield 47, 3) := by decide +kernel
theorem dX5_copy_161 : decode cX5_copy 161 = .ok (.invokestatic 76, 3) := by decide +kernel
theorem dX5_copy_164 : decode cX5_copy 164 = .ok (.aload_n 1, 1) := by decide +kernel
theorem dX5_copy_165 : decode cX5_copy 165 = .ok (.getfield 50, 3) := by decide +kernel
theorem dX5_copy_168 : decode cX5_copy 168 = .ok (.aload_n 0, 1) := by decide +kernel
theorem dX5_copy_169 : decode cX5_copy 169 = .ok (.getfield 50, 3) := by decide +kernel
theorem dX5_copy_172 : decode cX5_copy 172 = .ok (.invokestatic 72, 3) := by decide +kernel
theorem dX5_copy_175 : decode cX5_copy 175 = .ok (.return_, 1) := by decide +kernel
theorem dX5_copyRow_0 : decode cX5_copyRow 0 = .ok (.aload_n 0, 1) := by decide +kernel
theorem dX5_copyRow_1 : decode cX5_copyRow 1 = .ok (.iconst 0, 1) := by decide +kernel
theorem dX5_copyRow_2 : decode cX5_copyRow 2 = .ok (.aload_n 1, 1) := by decide +kernel
theorem dX5_copyRow_3 : decode cX5_copyRow 3 = .ok (.iconst 0, 1) := by decide +kernel
theorem dX5_copyRow_4 : decode cX5_copyRow 4 = .ok (.aload_n 0, 1) := by decide +kernel
theorem dX5_copyRow_5 : decode cX5_copyRow 5 = .ok (.arraylength, 1) := by decide +kernel
theorem dX5_copyRow_6 : decode cX5_copyRow 6 = .ok (.aload_n 1, 1) := by decide +kernel
theorem dX5_copyRow_7 : decode cX5_copyRow 7 = .ok (.arraylength, 1) := by decide +kernel
theorem dX5_copyRow_8 : decode cX5_copyRow 8 = .ok (.invokestatic 80, 3) := by decide +kernel
theorem dX5_copyRow_11 : decode cX5_copyRow 11 = .ok (.invokestatic 86, 3) := by decide +kernel
theorem dX5_copyRow_14 : decode cX5_copyRow 14 = .ok (.return_, 1) := by decide +kernel
theorem dX5_copyRows_0 : decode cX5_copyRows 0 = .ok (.iconst 0, 1) := by decide +kernel
theorem dX5_copyRows_1 : decode cX5_copyRows 1 = .ok (.istore_n 2, 1) := by decide +kernel
theorem dX5_copyRows_2 : decode cX5_copyRows 2 = .ok (.iload_n 2, 1) := by decide +kernel
theorem dX5_copyRows_3 : decode cX5_copyRows 3 = .ok (.aload_n 0, 1) := by decide +kernel
theorem dX5_copyRows_4 : decode cX5_copyRows 4 = .ok (.arraylength, 1) := by decide +kernel
theorem dX5_copyRows_5 : decode cX5_copyRows 5 = .ok (.if_icmp .ge 24, 3) := by decide +kernel
theorem dX5_copyRows_8 : decode cX5_copyRows 8 = .ok (.iload_n 2, 1) := by decide +kernel
theorem dX5_copyRows_9 : decode cX5_copyRows 9 = .ok (.aload_n 1, 1) := by decide +kernel
theorem dX5_copyRows_10 : decode cX5_copyRows 10 = .ok (.arraylength, 1) := by decide +kernel
theorem dX5_copyRows_11 : decode cX5_copyRows 11 = .ok (.if_icmp .ge 18, 3) := by decide +kernel
theorem dX5_copyRows_14 : decode cX5_copyRows 14 = .ok (.aload_n 0, 1) := by decide +kernel
theorem dX5_copyRows_15 : decode cX5_copyRows 15 = .ok (.iload_n 2, 1) := by decide +kernel
theorem dX5_copyRows_16 : decode cX5_copyRows 16 = .ok (.aaload, 1) := by decide +kernel
theorem dX5_copyRows_17 : decode cX5_copyRows 17 = .ok (.aload_n 1, 1) := by decide +kernel
theorem dX5_copyRows_18 : decode cX5_copyRows 18 = .ok (.iload_n 2, 1) := by decide +kernel
theorem dX5_copyRows_19 : decode cX5_copyRows 19 = .ok (.aaload, 1) := by decide +kernel
theorem dX5_copyRows_20 : decode cX5_copyRows 20 = .ok (.invokestatic 72, 3) := by decide +kernel
theorem dX5_copyRows_23 : decode cX5_copyRows 23 = .ok (.iinc 2 1, 3) := by decide +kernel
theorem dX5_copyRows_26 : decode cX5_copyRows 26 = .ok (.goto (-24), 3) := by decide +kernel
theorem dX5_copyRows_29 : decode cX5_copyRows 29 = .ok (.return_, 1) := by decide +kernel
theorem dX5_feedsIn_0 : decode cX5_feedsIn 0 = .ok (.aload_n 0, 1) := by decide +kernel
theorem dX5_feedsIn_1 : decode cX5_feedsIn 1 = .ok (.getfield 9, 3) := by decide +kernel
theorem dX5_feedsIn_4 : decode cX5_feedsIn 4 = .ok (.iload_n 1, 1) := by decide +kernel
theorem dX5_feedsIn_5 : decode cX5_feedsIn 5 = .ok (.iaload, 1) := by decide +kernel
theorem dX5_feedsIn_6 : decode cX5_feedsIn 6 = .ok (.aload_n 0, 1) := by decide +kernel
theorem dX5_feedsIn_7 : decode cX5_feedsIn 7 = .ok (.getfield 15, 3) := by decide +kernel
theorem dX5_feedsIn_10 : decode cX5_feedsIn 10 = .ok (.iload_n 2, 1) := by decide +kernel
theorem dX5_feedsIn_11 : decode cX5_feedsIn 11 = .ok (.iaload, 1) := by decide +kernel
theorem dX5_feedsIn_12 : decode cX5_feedsIn 12 = .ok (.imul, 1) := by decide +kernel
theorem dX5_feedsIn_13 : decode cX5_feedsIn 13 = .ok (.iconst 5, 1) := by decide +kernel
theorem dX5_feedsIn_14 : decode cX5_feedsIn 14 = .ok (.idiv, 1) := by decide +kernel
theorem dX5_feedsIn_15 : decode cX5_feedsIn 15 = .ok (.ireturn, 1) := by decide +kernel
theorem dX5_hasSign_0 : decode cX5_hasSign 0 = .ok (.iconst 0, 1) := by decide +kernel
theorem dX5_hasSign_1 : decode cX5_hasSign 1 = .ok (.istore_n 3, 1) := by decide +kernel
theorem dX5_hasSign_2 : decode cX5_hasSign 2 = .ok (.iload_n 3, 1) := by decide +kernel
theorem dX5_hasSign_3 : decode cX5_hasSign 3 = .ok (.aload_n 0, 1) := by decide +kernel
theorem dX5_hasSign_4 : decode cX5_hasSign 4 = .ok (.getfield 66, 3) := by decide +kernel
theorem dX5_hasSign_7 : decode cX5_hasSign 7 = .ok (.if_icmp .ge 35, 3) := by decide +kernel
theorem dX5_hasSign_10 : decode cX5_hasSign 10 = .ok (.aload_n 0, 1) := by decide +kernel
theorem dX5_hasSign_11 : decode cX5_hasSign 11 = .ok (.getfield 38, 3) := by decide +kernel
theorem dX5_hasSign_14 : decode cX5_hasSign 14 = .ok (.iload_n 3, 1) := by decide +kernel
theorem dX5_hasSign_15 : decode cX5_hasSign 15 = .ok (.aaload, 1) := by decide +kernel
theorem dX5_hasSign_16 : decode cX5_hasSign 16 = .ok (.iconst 0, 1) := by decide +kernel
theorem dX5_hasSign_17 : decode cX5_hasSign 17 = .ok (.iaload, 1) := by decide +kernel
theorem dX5_hasSign_18 : decode cX5_hasSign 18 = .ok (.iload_n 1, 1) := by decide +kernel
theorem dX5_hasSign_19 : decode cX5_hasSign 19 = .ok (.if_icmp .ne 17, 3) := by decide +kernel
theorem dX5_hasSign_22 : decode cX5_hasSign 22 = .ok (.aload_n 0, 1) := by decide +kernel
theorem dX5_hasSign_23 : decode cX5_hasSign 23 = .ok (.getfield 38, 3) := by decide +kernel
theorem dX5_hasSign_26 : decode cX5_hasSign 26 = .ok (.iload_n 3, 1) := by decide +kernel
theorem dX5_hasSign_27 : decode cX5_hasSign 27 = .ok (.aaload, 1) := by decide +kernel
theorem dX5_hasSign_28 : decode cX5_hasSign 28 = .ok (.iconst 1, 1) := by decide +kernel
theorem dX5_hasSign_29 : decode cX5_hasSign 29 = .ok (.iaload, 1) := by decide +kernel
theorem dX5_hasSign_30 : decode cX5_hasSign 30 = .ok (.iload_n 2, 1) := by decide +kernel
theorem dX5_hasSign_31 : decode cX5_hasSign 31 = .ok (.if_icmp .ne 5, 3) := by decide +kernel
theorem dX5_hasSign_34 : decode cX5_hasSign 34 = .ok (.iconst 1, 1) := by decide +kernel
theorem dX5_hasSign_35 : decode cX5_hasSign 35 = .ok (.ireturn, 1) := by decide +kernel
theorem dX5_hasSign_36 : decode cX5_hasSign 36 = .ok (.iinc 3 1, 3) := by decide +kernel
theorem dX5_hasSign_39 : decode cX5_hasSign 39 = .ok (.goto (-37), 3) := by decide +kernel
theorem dX5_hasSign_42 : decode cX5_hasSign 42 = .ok (.iconst 0, 1) := by decide +kernel
theorem dX5_hasSign_43 : decode cX5_hasSign 43 = .ok (.ireturn, 1) := by decide +kernel
theorem dX5_isHeard_0 : decode cX5_isHeard 0 = .ok (.iconst 0, 1) := by decide +kernel
theorem dX5_isHeard_1 : decode cX5_isHeard 1 = .ok (.istore_n 2, 1) := by decide +kernel
theorem dX5_isHeard_2 : decode cX5_isHeard 2 = .ok (.iload_n 2, 1) := by decide +kernel
theorem dX5_isHeard_3 : decode cX5_isHeard 3 = .ok (.iload_n 1, 1) := by decide +kernel
theorem dX5_isHeard_4 : decode cX5_isHeard 4 = .ok (.if_icmp .ge 30, 3) := by decide +kernel
theorem dX5_isHeard_7 : decode cX5_isHeard 7 = .ok (.aload_n 0, 1) := by decide +kernel
theorem dX5_isHeard_8 : decode cX5_isHeard 8 = .ok (.getfield 44, 3) := by decide +kernel
theorem dX5_isHeard_11 : decode cX5_isHeard 11 = .ok (.iload_n 2, 1) := by decide +kernel
theorem dX5_isHeard_12 : decode cX5_isHeard 12 = .ok (.aaload, 1) := by decide +kernel
theorem dX5_isHeard_13 : decode cX5_isHeard 13 = .ok (.iconst 0, 1) := by decide +kernel
theorem dX5_isHeard_14 : decode cX5_isHeard 14 = .ok (.iaload, 1) := by decide +kernel
theorem dX5_isHeard_15 : decode cX5_isHeard 15 = .ok (.aload_n 0, 1) := by decide +kernel
theorem dX5_isHeard_16 : decode cX5_isHeard 16 = .ok (.getfield 44, 3) := by decide +kernel
theorem dX5_isHeard_19 : decode cX5_isHeard 19 = .ok (.iload_n 1, 1) := by decide +kernel
theorem dX5_isHeard_20 : decode cX5_isHeard 20 = .ok (.aaload, 1) := by decide +kernel
theorem dX5_isHeard_21 : decode cX5_isHeard 21 = .ok (.iconst 0, 1) := by decide +kernel
theorem dX5_isHeard_22 : decode cX5_isHeard 22 = .ok (.iaload, 1) := by decide +kernel
theorem dX5_isHeard_23 : decode cX5_isHeard 23 = .ok (.if_icmp .ne 5, 3) := by decide +kernel
theorem dX5_isHeard_26 : decode cX5_isHeard 26 = .ok (.iconst 0, 1) := by decide +kernel
theorem dX5_isHeard_27 : decode cX5_isHeard 27 = .ok (.ireturn, 1) := by decide +kernel
theorem dX5_isHeard_28 : decode cX5_isHeard 28 = .ok (.iinc 2 1, 3) := by decide +kernel
theorem dX5_isHeard_31 : decode cX5_isHeard 31 = .ok (.goto (-29), 3) := by decide +kernel
theorem dX5_isHeard_34 : decode cX5_isHeard 34 = .ok (.iconst 1, 1) := by decide +kernel
theorem dX5_isHeard_35 : decode cX5_isHeard 35 = .ok (.ireturn, 1) := by decide +kernel
theorem dX5_countOf_0 : decode cX5_countOf 0 = .ok (.iload_n 1, 1) := by decide +kernel
theorem dX5_countOf_1 : decode cX5_countOf 1 = .ok (.tableswitch 51 0 3 #[31, 36, 41, 46], 31) := by decide +kernel
theorem dX5_countOf_32 : decode cX5_countOf 32 = .ok (.aload_n 0, 1) := by decide +kernel
theorem dX5_countOf_33 : decode cX5_countOf 33 = .ok (.getfield 59, 3) := by decide +kernel
theorem dX5_countOf_36 : decode cX5_countOf 36 = .ok (.ireturn, 1) := by decide +kernel
theorem dX5_countOf_37 : decode cX5_countOf 37 = .ok (.aload_n 0, 1) := by decide +kernel
theorem dX5_countOf_38 : decode cX5_countOf 38 = .ok (.getfield 63, 3) := by decide +kernel
theorem dX5_countOf_41 : decode cX5_countOf 41 = .ok (.ireturn, 1) := by decide +kernel
theorem dX5_countOf_42 : decode cX5_countOf 42 = .ok (.aload_n 0, 1) := by decide +kernel
theorem dX5_countOf_43 : decode cX5_countOf 43 = .ok (.getfield 66, 3) := by decide +kernel
theorem dX5_countOf_46 : decode cX5_countOf 46 = .ok (.ireturn, 1) := by decide +kernel
theorem dX5_countOf_47 : decode cX5_countOf 47 = .ok (.aload_n 0, 1) := by decide +kernel
theorem dX5_countOf_48 : decode cX5_countOf 48 = .ok (.getfield 69, 3) := by decide +kernel
theorem dX5_countOf_51 : decode cX5_countOf 51 = .ok (.ireturn, 1) := by decide +kernel
theorem dX5_countOf_52 : decode cX5_countOf 52 = .ok (.iload_n 1, 1) := by decide +kernel
theorem dX5_countOf_53 : decode cX5_countOf 53 = .ok (.iconst 4, 1) := by decide +kernel
theorem dX5_countOf_54 : decode cX5_countOf 54 = .ok (.if_icmp .lt 20, 3) := by decide +kernel
theorem dX5_countOf_57 : decode cX5_countOf 57 = .ok (.iload_n 1, 1) := by decide +kernel
theorem dX5_countOf_58 : decode cX5_countOf 58 = .ok (.bipush 8, 2) := by decide +kernel
theorem dX5_countOf_60 : decode cX5_countOf 60 = .ok (.if_icmp .ge 14, 3) := by decide +kernel
theorem dX5_countOf_63 : decode cX5_countOf 63 = .ok (.aload_n 0, 1) := by decide +kernel
theorem dX5_countOf_64 : decode cX5_countOf 64 = .ok (.getfield 32, 3) := by decide +kernel
theorem dX5_countOf_67 : decode cX5_countOf 67 = .ok (.iload_n 1, 1) := by decide +kernel
theorem dX5_countOf_68 : decode cX5_countOf 68 = .ok (.iconst 4, 1) := by decide +kernel
theorem dX5_countOf_69 : decode cX5_countOf 69 = .ok (.isub, 1) := by decide +kernel
theorem dX5_countOf_70 : decode cX5_countOf 70 = .ok (.iaload, 1) := by decide +kernel
theorem dX5_countOf_71 : decode cX5_countOf 71 = .ok (.goto 4, 3) := by decide +kernel
theorem dX5_countOf_74 : decode cX5_countOf 74 = .ok (.iconst 0, 1) := by decide +kernel
theorem dX5_countOf_75 : decode cX5_countOf 75 = .ok (.ireturn, 1) := by decide +kernel
theorem dX5_digestOnto_0 : decode cX5_digestOnto 0 = .ok (.lload_n 1, 1) := by decide +kernel
theorem dX5_digestOnto_1 : decode cX5_digestOnto 1 = .ok (.lstore_n 3, 1) := by decide +kernel
theorem dX5_digestOnto_2 : decode cX5_digestOnto 2 = .ok (.iconst 0, 1) := by decide +kernel
theorem dX5_digestOnto_3 : decode cX5_digestOnto 3 = .ok (.istore 5, 2) := by decide +kernel
theorem dX5_digestOnto_5 : decode cX5_digestOnto 5 = .ok (.iload 5, 2) := by decide +kernel
theorem dX5_digestOnto_7 : decode cX5_digestOnto 7 = .ok (.bipush 8, 2) := by decide +kernel
theorem dX5_digestOnto_9 : decode cX5_digestOnto 9 = .ok (.if_icmp .ge 23, 3) := by decide +kernel
theorem dX5_digestOnto_12 : decode cX5_digestOnto 12 = .ok (.ldc2_w 92, 3) := by decide +kernel
theorem dX5_digestOnto_15 : decode cX5_digestOnto 15 = .ok (.lload_n 3, 1) := by decide +kernel
theorem dX5_digestOnto_16 : decode cX5_digestOnto 16 = .ok (.lmul, 1) := by decide +kernel
theorem dX5_digestOnto_17 : decode cX5_digestOnto 17 = .ok (.aload_n 0, 1) := by decide +kernel
theorem dX5_digestOnto_18 : decode cX5_digestOnto 18 = .ok (.iload 5, 2) := by decide +kernel
theorem dX5_digestOnto_20 : decode cX5_digestOnto 20 = .ok (.invokevirtual 94, 3) := by decide +kernel
theorem dX5_digestOnto_23 : decode cX5_digestOnto 23 = .ok (.i2l, 1) := by decide +kernel
theorem dX5_digestOnto_24 : decode cX5_digestOnto 24 = .ok (.ladd, 1) := by decide +kernel
theorem dX5_digestOnto_25 : decode cX5_digestOnto 25 = .ok (.lstore_n 3, 1) := by decide +kernel
theorem dX5_digestOnto_26 : decode cX5_digestOnto 26 = .ok (.iinc 5 1, 3) := by decide +kernel
theorem dX5_digestOnto_29 : decode cX5_digestOnto 29 = .ok (.goto (-24), 3) := by decide +kernel
theorem dX5_digestOnto_32 : decode cX5_digestOnto 32 = .ok (.lload_n 3, 1) := by decide +kernel
theorem dX5_digestOnto_33 : decode cX5_digestOnto 33 = .ok (.aload_n 0, 1) := by decide +kernel
theorem dX5_digestOnto_34 : decode cX5_digestOnto 34 = .ok (.getfield 9, 3) := by decide +kernel
theorem dX5_digestOnto_37 : decode cX5_digestOnto 37 = .ok (.aload_n 0, 1) := by decide +kernel
theorem dX5_digestOnto_38 : decode cX5_digestOnto 38 = .ok (.getfield 59, 3) := by decide +kernel
theorem dX5_digestOnto_41 : decode cX5_digestOnto 41 = .ok (.invokestatic 98, 3) := by decide +kernel
theorem dX5_digestOnto_44 : decode cX5_digestOnto 44 = .ok (.lstore_n 3, 1) := by decide +kernel
theorem dX5_digestOnto_45 : decode cX5_digestOnto 45 = .ok (.lload_n 3, 1) := by decide +kernel
theorem dX5_digestOnto_46 : decode cX5_digestOnto 46 = .ok (.aload_n 0, 1) := by decide +kernel
theorem dX5_digestOnto_47 : decode cX5_digestOnto 47 = .ok (.getfield 15, 3) := by decide +kernel
theorem dX5_digestOnto_50 : decode cX5_digestOnto 50 = .ok (.bipush 10, 2) := by decide +kernel
theorem dX5_digestOnto_52 : decode cX5_digestOnto 52 = .ok (.invokestatic 98, 3) := by decide +kernel
theorem dX5_digestOnto_55 : decode cX5_digestOnto 55 = .ok (.lstore_n 3, 1) := by decide +kernel
theorem dX5_digestOnto_56 : decode cX5_digestOnto 56 = .ok (.lload_n 3, 1) := by decide +kernel
theorem dX5_digestOnto_57 : decode cX5_digestOnto 57 = .ok (.aload_n 0, 1) := by decide +kernel
theorem dX5_digestOnto_58 : decode cX5_digestOnto 58 = .ok (.getfield 18, 3) := by decide +kernel
theorem dX5_digestOnto_61 : decode cX5_digestOnto 61 = .ok (.aload_n 0, 1) := by decide +kernel
theorem dX5_digestOnto_62 : decode cX5_digestOnto 62 = .ok (.getfield 63, 3) := by decide +kernel
theorem dX5_digestOnto_65 : decode cX5_digestOnto 65 = .ok (.invokestatic 98, 3) := by decide +kernel
theorem dX5_digestOnto_68 : decode cX5_digestOnto 68 = .ok (.lstore_n 3, 1) := by decide +kernel
theorem dX5_digestOnto_69 : decode cX5_digestOnto 69 = .ok (.lload_n 3, 1) := by decide +kernel
theorem dX5_digestOnto_70 : decode cX5_digestOnto 70 = .ok (.aload_n 0, 1) := by decide +kernel
theorem dX5_digestOnto_71 : decode cX5_digestOnto 71 = .ok (.getfield 21, 3) := by decide +kernel
theorem dX5_digestOnto_74 : decode cX5_digestOnto 74 = .ok (.aload_n 0, 1) := by decide +kernel
theorem dX5_digestOnto_75 : decode cX5_digestOnto 75 = .ok (.getfield 21, 3) := by decide +kernel
theorem dX5_digestOnto_78 : decode cX5_digestOnto 78 = .ok (.arraylength, 1) := by decide +kernel
theorem dX5_digestOnto_79 : decode cX5_digestOnto 79 = .ok (.invokestatic 98, 3) := by decide +kernel
theorem dX5_digestOnto_82 : decode cX5_digestOnto 82 = .ok (.lstore_n 3, 1) := by decide +kernel
theorem dX5_digestOnto_83 : decode cX5_digestOnto 83 = .ok (.lload_n 3, 1) := by decide +kernel
theorem dX5_digestOnto_84 : decode cX5_digestOnto 84 = .ok (.aload_n 0, 1) := by decide +kernel
theorem dX5_digestOnto_85 : decode cX5_digestOnto 85 = .ok (.getfield 26, 3) := by decide +kernel
theorem dX5_digestOnto_88 : decode cX5_digestOnto 88 = .ok (.iconst 4, 1) := by decide +kernel
theorem dX5_digestOnto_89 : decode cX5_digestOnto 89 = .ok (.invokestatic 102, 3) := by decide +kernel
theorem dX5_digestOnto_92 : decode cX5_digestOnto 92 = .ok (.lstore_n 3, 1) := by decide +kernel
theorem dX5_digestOnto_93 : decode cX5_digestOnto 93 = .ok (.iconst 0, 1) := by decide +kernel
theorem dX5_digestOnto_94 : decode cX5_digestOnto 94 = .ok (.istore 5, 2) := by decide +kernel
theorem dX5_digestOnto_96 : decode cX5_digestOnto 96 = .ok (.iload 5, 2) := by decide +kernel
theorem dX5_digestOnto_98 : decode cX5_digestOnto 98 = .ok (.iconst 4, 1) := by decide +kernel
theorem dX5_digestOnto_99 : decode cX5_digestOnto 99 = .ok (.if_icmp .ge 43, 3) := by decide +kernel
theorem dX5_digestOnto_102 : decode cX5_digestOnto 102 = .ok (.ldc2_w 92, 3) := by decide +kernel
theorem dX5_digestOnto_105 : decode cX5_digestOnto 105 = .ok (.lload_n 3, 1) := by decide +kernel
theorem dX5_digestOnto_106 : decode cX5_digestOnto 106 = .ok (.lmul, 1) := by decide +kernel
theorem dX5_digestOnto_107 : decode cX5_digestOnto 107 = .ok (.aload_n 0, 1) := by decide +kernel
theorem dX5_digestOnto_108 : decode cX5_digestOnto 108 = .ok (.getfield 29, 3) := by decide +kernel
theorem dX5_digestOnto_111 : decode cX5_digestOnto 111 = .ok (.iload 5, 2) := by decide +kernel
theorem dX5_digestOnto_113 : decode cX5_digestOnto 113 = .ok (.iaload, 1) := by decide +kernel
theorem dX5_digestOnto_114 : decode cX5_digestOnto 114 = .ok (.i2l, 1) := by decide +kernel
theorem dX5_digestOnto_115 : decode cX5_digestOnto 115 = .ok (.ladd, 1) := by decide +kernel
theorem dX5_digestOnto_116 : decode cX5_digestOnto 116 = .ok (.lstore_n 3, 1) := by decide +kernel
theorem dX5_digestOnto_117 : decode cX5_digestOnto 117 = .ok (.lload_n 3, 1) := by decide +kernel
theorem dX5_digestOnto_118 : decode cX5_digestOnto 118 = .ok (.aload_n 0, 1) := by decide +kernel
theorem dX5_digestOnto_119 : decode cX5_digestOnto 119 = .ok (.getfield 35, 3) := by decide +kernel
theorem dX5_digestOnto_122 : decode cX5_digestOnto 122 = .ok (.iload 5, 2) := by decide +kernel
theorem dX5_digestOnto_124 : decode cX5_digestOnto 124 = .ok (.aaload, 1) := by decide +kernel
theorem dX5_digestOnto_125 : decode cX5_digestOnto 125 = .ok (.aload_n 0, 1) := by decide +kernel
theorem dX5_digestOnto_126 : decode cX5_digestOnto 126 = .ok (.getfield 32, 3) := by decide +kernel
theorem dX5_digestOnto_129 : decode cX5_digestOnto 129 = .ok (.iload 5, 2) := by decide +kernel
theorem dX5_digestOnto_131 : decode cX5_digestOnto 131 = .ok (.iaload, 1) := by decide +kernel
theorem dX5_digestOnto_132 : decode cX5_digestOnto 132 = .ok (.invokestatic 98, 3) := by decide +kernel
theorem dX5_digestOnto_135 : decode cX5_digestOnto 135 = .ok (.lstore_n 3, 1) := by decide +kernel
theorem dX5_digestOnto_136 : decode cX5_digestOnto 136 = .ok (.iinc 5 1, 3) := by decide +kernel
theorem dX5_digestOnto_139 : decode cX5_digestOnto 139 = .ok (.goto (-43), 3) := by decide +kernel
theorem dX5_digestOnto_142 : decode cX5_digestOnto 142 = .ok (.lload_n 3, 1) := by decide +kernel
theorem dX5_digestOnto_143 : decode cX5_digestOnto 143 = .ok (.aload_n 0, 1) := by decide +kernel
theorem dX5_digestOnto_144 : decode cX5_digestOnto 144 = .ok (.getfield 38, 3) := by decide +kernel
theorem dX5_digestOnto_147 : decode cX5_digestOnto 147 = .ok (.aload_n 0, 1) := by decide +kernel
theorem dX5_digestOnto_148 : decode cX5_digestOnto 148 = .ok (.getfield 66, 3) := by decide +kernel
theorem dX5_digestOnto_151 : decode cX5_digestOnto 151 = .ok (.invokestatic 102, 3) := by decide +kernel
theorem dX5_digestOnto_154 : decode cX5_digestOnto 154 = .ok (.lstore_n 3, 1) := by decide +kernel
theorem dX5_digestOnto_155 : decode cX5_digestOnto 155 = .ok (.lload_n 3, 1) := by decide +kernel
theorem dX5_digestOnto_156 : decode cX5_digestOnto 156 = .ok (.aload_n 0, 1) := by decide +kernel
theorem dX5_digestOnto_157 : decode cX5_digestOnto 157 = .ok (.getfield 41, 3) := by decide +kernel
theorem dX5_digestOnto_160 : decode cX5_digestOnto 160 = .ok (.iconst 3, 1) := by decide +kernel
theorem dX5_digestOnto_161 : decode cX5_digestOnto 161 = .ok (.invokestatic 98, 3) := by decide +kernel
theorem dX5_digestOnto_164 : decode cX5_digestOnto 164 = .ok (.lstore_n 3, 1) := by decide +kernel
theorem dX5_digestOnto_165 : decode cX5_digestOnto 165 = .ok (.lload_n 3, 1) := by decide +kernel
theorem dX5_digestOnto_166 : decode cX5_digestOnto 166 = .ok (.aload_n 0, 1) := by decide +kernel
theorem dX5_digestOnto_167 : decode cX5_digestOnto 167 = .ok (.getfield 44, 3) := by decide +kernel
theorem dX5_digestOnto_170 : decode cX5_digestOnto 170 = .ok (.aload_n 0, 1) := by decide +kernel
theorem dX5_digestOnto_171 : decode cX5_digestOnto 171 = .ok (.getfield 69, 3) := by decide +kernel
theorem dX5_digestOnto_174 : decode cX5_digestOnto 174 = .ok (.invokestatic 102, 3) := by decide +kernel
theorem dX5_digestOnto_177 : decode cX5_digestOnto 177 = .ok (.lstore_n 3, 1) := by decide +kernel
theorem dX5_digestOnto_178 : decode cX5_digestOnto 178 = .ok (.iconst 0, 1) := by decide +kernel
theorem dX5_digestOnto_179 : decode cX5_digestOnto 179 = .ok (.istore 5, 2) := by decide +kernel
theorem dX5_digestOnto_181 : decode cX5_digestOnto 181 = .ok (.iload 5, 2) := by decide +kernel
theorem dX5_digestOnto_183 : decode cX5_digestOnto 183 = .ok (.aload_n 0, 1) := by decide +kernel
theorem dX5_digestOnto_184 : decode cX5_digestOnto 184 = .ok (.getfield 59, 3) := by decide +kernel
theorem dX5_digestOnto_187 : decode cX5_digestOnto 187 = .ok (.if_icmp .ge 23, 3) := by decide +kernel
theorem dX5_digestOnto_190 : decode cX5_digestOnto 190 = .ok (.lload_n 3, 1) := by decide +kernel
theorem dX5_digestOnto_191 : decode cX5_digestOnto 191 = .ok (.aload_n 0, 1) := by decide +kernel
theorem dX5_digestOnto_192 : decode cX5_digestOnto 192 = .ok (.getfield 47, 3) := by decide +kernel
theorem dX5_digestOnto_195 : decode cX5_digestOnto 195 = .ok (.iload 5, 2) := by decide +kernel
theorem dX5_digestOnto_197 : decode cX5_digestOnto 197 = .ok (.aaload, 1) := by decide +kernel
theorem dX5_digestOnto_198 : decode cX5_digestOnto 198 = .ok (.iload 5, 2) := by decide +kernel
theorem dX5_digestOnto_200 : decode cX5_digestOnto 200 = .ok (.invokestatic 98, 3) := by decide +kernel
theorem dX5_digestOnto_203 : decode cX5_digestOnto 203 = .ok (.lstore_n 3, 1) := by decide +kernel
theorem dX5_digestOnto_204 : decode cX5_digestOnto 204 = .ok (.iinc 5 1, 3) := by decide +kernel
theorem dX5_digestOnto_207 : decode cX5_digestOnto 207 = .ok (.goto (-26), 3) := by decide +kernel
theorem dX5_digestOnto_210 : decode cX5_digestOnto 210 = .ok (.lload_n 3, 1) := by decide +kernel
theorem dX5_digestOnto_211 : decode cX5_digestOnto 211 = .ok (.aload_n 0, 1) := by decide +kernel
theorem dX5_digestOnto_212 : decode cX5_digestOnto 212 = .ok (.getfield 50, 3) := by decide +kernel
theorem dX5_digestOnto_215 : decode cX5_digestOnto 215 = .ok (.bipush 60, 2) := by decide +kernel
theorem dX5_digestOnto_217 : decode cX5_digestOnto 217 = .ok (.invokestatic 98, 3) := by decide +kernel
theorem dX5_digestOnto_220 : decode cX5_digestOnto 220 = .ok (.lreturn, 1) := by decide +kernel
theorem dX5_digestRows_0 : decode cX5_digestRows 0 = .ok (.lload_n 0, 1) := by decide +kernel
theorem dX5_digestRows_1 : decode cX5_digestRows 1 = .ok (.lstore 4, 2) := by decide +kernel
theorem dX5_digestRows_3 : decode cX5_digestRows 3 = .ok (.iconst 0, 1) := by decide +kernel
theorem dX5_digestRows_4 : decode cX5_digestRows 4 = .ok (.istore 6, 2) := by decide +kernel
theorem dX5_digestRows_6 : decode cX5_digestRows 6 = .ok (.iload 6, 2) := by decide +kernel
theorem dX5_digestRows_8 : decode cX5_digestRows 8 = .ok (.iload_n 3, 1) := by decide +kernel
theorem dX5_digestRows_9 : decode cX5_digestRows 9 = .ok (.if_icmp .ge 32, 3) := by decide +kernel
theorem dX5_digestRows_12 : decode cX5_digestRows 12 = .ok (.iload 6, 2) := by decide +kernel
theorem dX5_digestRows_14 : decode cX5_digestRows 14 = .ok (.aload_n 2, 1) := by decide +kernel
theorem dX5_digestRows_15 : decode cX5_digestRows 15 = .ok (.arraylength, 1) := by decide +kernel
theorem dX5_digestRows_16 : decode cX5_digestRows 16 = .ok (.if_icmp .ge 25, 3) := by decide +kernel
theorem dX5_digestRows_19 : decode cX5_digestRows 19 = .ok (.lload 4, 2) := by decide +kernel
theorem dX5_digestRows_21 : decode cX5_digestRows 21 = .ok (.aload_n 2, 1) := by decide +kernel
theorem dX5_digestRows_22 : decode cX5_digestRows 22 = .ok (.iload 6, 2) := by decide +kernel
theorem dX5_digestRows_24 : decode cX5_digestRows 24 = .ok (.aaload, 1) := by decide +kernel
theorem dX5_digestRows_25 : decode cX5_digestRows 25 = .ok (.aload_n 2, 1) := by decide +kernel
theorem dX5_digestRows_26 : decode cX5_digestRows 26 = .ok (.iload 6, 2) := by decide +kernel
theorem dX5_digestRows_28 : decode cX5_digestRows 28 = .ok (.aaload, 1) := by decide +kernel
theorem dX5_digestRows_29 : decode cX5_digestRows 29 = .ok (.arraylength, 1) := by decide +kernel
theorem dX5_digestRows_30 : decode cX5_digestRows 30 = .ok (.invokestatic 98, 3) := by decide +kernel
theorem dX5_digestRows_33 : decode cX5_digestRows 33 = .ok (.lstore 4, 2) := by decide +kernel
theorem dX5_digestRows_35 : decode cX5_digestRows 35 = .ok (.iinc 6 1, 3) := by decide +kernel
theorem dX5_digestRows_38 : decode cX5_digestRows 38 = .ok (.goto (-32), 3) := by decide +kernel
theorem dX5_digestRows_41 : decode cX5_digestRows 41 = .ok (.lload 4, 2) := by decide +kernel
theorem dX5_digestRows_43 : decode cX5_digestRows 43 = .ok (.lreturn, 1) := by decide +kernel
theorem dX6_init_0 : decode cX6_init 0 = .ok (.aload_n 0, 1) := by decide +kernel
theorem dX6_init_1 : decode cX6_init 1 = .ok (.invokespecial 3, 3) := by decide +kernel
theorem dX6_init_4 : decode cX6_init 4 = .ok (.aload_n 0, 1) := by decide +kernel
theorem dX6_init_5 : decode cX6_init 5 = .ok (.bipush 120, 2) := by decide +kernel
theorem dX6_init_7 : decode cX6_init 7 = .ok (.newarray .int, 2) := by decide +kernel
theorem dX6_init_9 : decode cX6_init 9 = .ok (.putfield 9, 3) := by decide +kernel
theorem dX6_init_12 : decode cX6_init 12 = .ok (.aload_n 0, 1) := by decide +kernel
theorem dX6_init_13 : decode cX6_init 13 = .ok (.bipush 6, 2) := by decide +kernel
theorem dX6_init_15 : decode cX6_init 15 = .ok (.newarray .int, 2) := by decide +kernel
theorem dX6_init_17 : decode cX6_init 17 = .ok (.putfield 15, 3) := by decide +kernel
theorem dX6_init_20 : decode cX6_init 20 = .ok (.aload_n 0, 1) := by decide +kernel
theorem dX6_init_21 : decode cX6_init 21 = .ok (.iconst (-1), 1) := by decide +kernel
theorem dX6_init_22 : decode cX6_init 22 = .ok (.putfield 18, 3) := by decide +kernel
theorem dX6_init_25 : decode cX6_init 25 = .ok (.aload_n 0, 1) := by decide +kernel
theorem dX6_init_26 : decode cX6_init 26 = .ok (.iconst (-1), 1) := by decide +kernel
theorem dX6_init_27 : decode cX6_init 27 = .ok (.putfield 22, 3) := by decide +kernel
theorem dX6_init_30 : decode cX6_init 30 = .ok (.return_, 1) := by decide +kernel
theorem dX6_read_0 : decode cX6_read 0 = .ok (.aload_n 0, 1) := by decide +kernel
theorem dX6_read_1 : decode cX6_read 1 = .ok (.iconst (-1), 1) := by decide +kernel
theorem dX6_read_2 : decode cX6_read 2 = .ok (.putfield 18, 3) := by decide +kernel
theorem dX6_read_5 : decode cX6_read 5 = .ok (.aload_n 0, 1) := by decide +kernel
theorem dX6_read_6 : decode cX6_read 6 = .ok (.iconst (-1), 1) := by decide +kernel
theorem dX6_read_7 : decode cX6_read 7 = .ok (.putfield 22, 3) := by decide +kernel
theorem dX6_read_10 : decode cX6_read 10 = .ok (.aload_n 0, 1) := by decide +kernel
theorem dX6_read_11 : decode cX6_read 11 = .ok (.iconst 0, 1) := by decide +kernel
theorem dX6_read_12 : decode cX6_read 12 = .ok (.putfield 25, 3) := by decide +kernel
theorem dX6_read_15 : decode cX6_read 15 = .ok (.aload_n 0, 1) := by decide +kernel
theorem dX6_read_16 : decode cX6_read 16 = .ok (.iconst 0, 1) := by decide +kernel
theorem dX6_read_17 : decode cX6_read 17 = .ok (.putfield 29, 3) := by decide +kernel
theorem dX6_read_20 : decode cX6_read 20 = .ok (.aload_n 0, 1) := by decide +kernel
theorem dX6_read_21 : decode cX6_read 21 = .ok (.iconst 0, 1) := by decide +kernel
theorem dX6_read_22 : decode cX6_read 22 = .ok (.putfield 32, 3) := by decide +kernel
theorem dX6_read_25 : decode cX6_read 25 = .ok (.aload_n 0, 1) := by decide +kernel
theorem dX6_read_26 : decode cX6_read 26 = .ok (.iconst 0, 1) := by decide +kernel
theorem dX6_read_27 : decode cX6_read 27 = .ok (.putfield 35, 3) := by decide +kernel
theorem dX6_read_30 : decode cX6_read 30 = .ok (.aload_n 0, 1) := by decide +kernel
theorem dX6_read_31 : decode cX6_read 31 = .ok (.getfield 15, 3) := by decide +kernel
theorem dX6_read_34 : decode cX6_read 34 = .ok (.iconst 0, 1) := by decide +kernel
theorem dX6_read_35 : decode cX6_read 35 = .ok (.invokestatic 38, 3) := by decide +kernel
theorem dX6_read_38 : decode cX6_read 38 = .ok (.iconst 0, 1) := by decide +kernel
theorem dX6_read_39 : decode cX6_read 39 = .ok (.istore_n 3, 1) := by decide +kernel
theorem dX6_read_40 : decode cX6_read 40 = .ok (.iload_n 3, 1) := by decide +kernel
theorem dX6_read_41 : decode cX6_read 41 = .ok (.bipush 120, 2) := by decide +kernel
theorem dX6_read_43 : decode cX6_read 43 = .ok (.if_icmp .ge 49, 3) := by decide +kernel
theorem dX6_read_46 : decode cX6_read 46 = .ok (.aload_n 0, 1) := by decide +kernel
theorem dX6_read_47 : decode cX6_read 47 = .ok (.getfield 18, 3) := by decide +kernel
theorem dX6_read_50 : decode cX6_read 50 = .ok (.iconst (-1), 1) := by decide +kernel
theorem dX6_read_51 : decode cX6_read 51 = .ok (.if_icmp .ne 41, 3) := by decide +kernel
theorem dX6_read_54 : decode cX6_read 54 = .ok (.aload_n 1, 1) := by decide +kernel
theorem dX6_read_55 : decode cX6_read 55 = .ok (.aload_n 0, 1) := by decide +kernel
theorem dX6_read_56 : decode cX6_read 56 = .ok (.getfield 35, 3) := by decide +kernel
theorem dX6_read_59 : decode cX6_read 59 = .ok (.invokevirtual 44, 3) := by decide +kernel
theorem dX6_read_62 : decode cX6_read 62 = .ok (.ifCond .eq 30, 3) := by decide +kernel
theorem dX6_read_65 : decode cX6_read 65 = .ok (.aload_n 0, 1) := by decide +kernel
theorem dX6_read_66 : decode cX6_read 66 = .ok (.aload_n 1, 1) := by decide +kernel
theorem dX6_read_67 : decode cX6_read 67 = .ok (.iload_n 2, 1) := by decide +kernel
theorem dX6_read_68 : decode cX6_read 68 = .ok (.invokevirtual 50, 3) := by decide +kernel
theorem dX6_read_71 : decode cX6_read 71 = .ok (.ifCond .ne 15, 3) := by decide +kernel
theorem dX6_read_74 : decode cX6_read 74 = .ok (.aload_n 0, 1) := by decide +kernel
theorem dX6_read_75 : decode cX6_read 75 = .ok (.aload_n 1, 1) := by decide +kernel
theorem dX6_read_76 : decode cX6_read 76 = .ok (.aload_n 0, 1) := by decide +kernel
theorem dX6_read_77 : decode cX6_read 77 = .ok (.getfield 35, 3) := by decide +kernel
theorem dX6_read_80 : decode cX6_read 80 = .ok (.invokevirtual 54, 3) := by decide +kernel
theorem dX6_read_83 : decode cX6_read 83 = .ok (.putfield 18, 3) := by decide +kernel
theorem dX6_read_86 : decode cX6_read 86 = .ok (.iinc 3 1, 3) := by decide +kernel
theorem dX6_read_89 : decode cX6_read 89 = .ok (.goto (-49), 3) := by decide +kernel
theorem dX6_read_92 : decode cX6_read 92 = .ok (.aload_n 0, 1) := by decide +kernel
theorem dX6_read_93 : decode cX6_read 93 = .ok (.bipush 120, 2) := by decide +kernel
theorem dX6_read_95 : decode cX6_read 95 = .ok (.invokevirtual 57, 3) := by decide +kernel
theorem dX6_read_98 : decode cX6_read 98 = .ok (.return_, 1) := by decide +kernel
theorem dX6_readItem_0 : decode cX6_readItem 0 = .ok (.aload_n 1, 1) := by decide +kernel
theorem dX6_readItem_1 : decode cX6_readItem 1 = .ok (.aload_n 0, 1) := by decide +kernel
theorem dX6_readItem_2 : decode cX6_readItem 2 = .ok (.getfield 35, 3) := by decide +kernel
theorem dX6_readItem_5 : decode cX6_readItem 5 = .ok (.invokevirtual 44, 3) := by decide +kernel
theorem dX6_readItem_8 : decode cX6_readItem 8 = .ok (.istore_n 3, 1) := by decide +kernel
theorem dX6_readItem_9 : decode cX6_readItem 9 = .ok (.aload_n 0, 1) := by decide +kernel
theorem dX6_readItem_10 : decode cX6_readItem 10 = .ok (.getfield 32, 3) := by decide +kernel
theorem dX6_readItem_13 : decode cX6_readItem 13 = .ok (.istore 4, 2) := by decide +kernel
theorem dX6_readItem_15 : decode cX6_readItem 15 = .ok (.iconst 0, 1) := by decide +kernel
theorem dX6_readItem_16 : decode cX6_readItem 16 = .ok (.istore 5, 2) := by decide +kernel
theorem dX6_readItem_18 : decode cX6_readItem 18 = .ok (.aload_n 0, 1) := by decide +kernel
theorem dX6_readItem_19 : decode cX6_readItem 19 = .ok (.iload_n 3, 1) := by decide +kernel
theorem dX6_readItem_20 : decode cX6_readItem 20 = .ok (.invokevirtual 61, 3) := by decide +kernel
theorem dX6_readItem_23 : decode cX6_readItem 23 = .ok (.ifCond .ne 5, 3) := by decide +kernel
theorem dX6_readItem_26 : decode cX6_readItem 26 = .ok (.iconst 0, 1) := by decide +kernel
theorem dX6_readItem_27 : decode cX6_readItem 27 = .ok (.ireturn, 1) := by decide +kernel
theorem dX6_readItem_28 : decode cX6_readItem 28 = .ok (.aload_n 0, 1) := by decide +kernel
theorem dX6_readItem_29 : decode cX6_readItem 29 = .ok (.dup, 1) := by decide +kernel
theorem dX6_readItem_30 : decode cX6_readItem 30 = .ok (.getfield 35, 3) := by decide +kernel
theorem dX6_readItem_33 : decode cX6_readItem 33 = .ok (.iconst 1, 1) := by decide +kernel
theorem dX6_readItem_34 : decode cX6_readItem 34 = .ok (.iadd, 1) := by decide +kernel
theorem dX6_readItem_35 : decode cX6_readItem 35 = .ok (.putfield 35, 3) := by decide +kernel
theorem dX6_readItem_38 : decode cX6_readItem 38 = .ok (.iload_n 3, 1) := by decide +kernel
theorem dX6_readItem_39 : decode cX6_readItem 39 = .ok (.invokestatic 65, 3) := by decide +kernel
theorem dX6_readItem_42 : decode cX6_readItem 42 = .ok (.ifCond .eq 53, 3) := by decide +kernel
theorem dX6_readItem_45 : decode cX6_readItem 45 = .ok (.aload_n 1, 1) := by decide +kernel
theorem dX6_readItem_46 : decode cX6_readItem 46 = .ok (.aload_n 0, 1) := by decide +kernel
theorem dX6_readItem_47 : decode cX6_readItem 47 = .ok (.getfield 35, 3) := by decide +kernel
theorem dX6_readItem_50 : decode cX6_readItem 50 = .ok (.invokevirtual 68, 3) := by decide +kernel
theorem dX6_readItem_53 : decode cX6_readItem 53 = .ok (.istore 4, 2) := by decide +kernel
theorem dX6_readItem_55 : decode cX6_readItem 55 = .ok (.aload_n 1, 1) := by decide +kernel
theorem dX6_readItem_56 : decode cX6_readItem 56 = .ok (.aload_n 0, 1) := by decide +kernel
theorem dX6_readItem_57 : decode cX6_readItem 57 = .ok (.getfield 35, 3) := by decide +kernel
theorem dX6_readItem_60 : decode cX6_readItem 60 = .ok (.invokevirtual 44, 3) := by decide +kernel
theorem dX6_readItem_63 : decode cX6_readItem 63 = .ok (.iconst 1, 1) := by decide +kernel
theorem dX6_readItem_64 : decode cX6_readItem 64 = .ok (.if_icmp .ne 19, 3) := by decide +kernel
theorem dX6_readItem_67 : decode cX6_readItem 67 = .ok (.iload 4, 2) := by decide +kernel
theorem dX6_readItem_69 : decode cX6_readItem 69 = .ok (.bipush 120, 2) := by decide +kernel
theorem dX6_readItem_71 : decode cX6_readItem 71 = .ok (.if_icmp .ge 12, 3) := by decide +kernel
theorem dX6_readItem_74 : decode cX6_readItem 74 = .ok (.iload 4, 2) := by decide +kernel
theorem dX6_readItem_76 : decode cX6_readItem 76 = .ok (.aload_n 0, 1) := by decide +kernel
theorem dX6_readItem_77 : decode cX6_readItem 77 = .ok (.getfield 32, 3) := by decide +kernel
theorem dX6_readItem_80 : decode cX6_readItem 80 = .ok (.if_icmp .ge 5, 3) := by decide +kernel
theorem dX6_readItem_83 : decode cX6_readItem 83 = .ok (.iconst 0, 1) := by decide +kernel
theorem dX6_readItem_84 : decode cX6_readItem 84 = .ok (.ireturn, 1) := by decide +kernel
theorem dX6_readItem_85 : decode cX6_readItem 85 = .ok (.aload_n 0, 1) := by decide +kernel
theorem dX6_readItem_86 : decode cX6_readItem 86 = .ok (.dup, 1) := by decide +kernel
theorem dX6_readItem_87 : decode cX6_readItem 87 = .ok (.getfield 35, 3) := by decide +kernel
theorem dX6_readItem_90 : decode cX6_readItem 90 = .ok (.iconst 1, 1) := by decide +kernel
theorem dX6_readItem_91 : decode cX6_readItem 91 = .ok (.iadd, 1) := by decide +kernel
theorem dX6_readItem_92 : decode cX6_readItem 92 = .ok (.putfield 35, 3) := by decide +kernel
theorem dX6_readItem_95 : decode cX6_readItem 95 = .ok (.iload_n 3, 1) := by decide +kernel
theorem dX6_readItem_96 : decode cX6_readItem 96 = .ok (.iconst 4, 1) := by decide +kernel
theorem dX6_readItem_97 : decode cX6_readItem 97 = .ok (.if_icmp .eq 9, 3) := by decide +kernel
theorem dX6_readItem_100 : decode cX6_readItem 100 = .ok (.iload_n 3, 1) := by decide +kernel
theorem dX6_readItem_101 : decode cX6_readItem 101 = .ok (.bipush 7, 2) := by decide +kernel
theorem dX6_readItem_103 : decode cX6_readItem 103 = .ok (.if_icmp .ne 43, 3) := by decide +kernel
theorem dX6_readItem_106 : decode cX6_readItem 106 = .ok (.aload_n 1, 1) := by decide +kernel
theorem dX6_readItem_107 : decode cX6_readItem 107 = .ok (.aload_n 0, 1) := by decide +kernel
theorem dX6_readItem_108 : decode cX6_readItem 108 = .ok (.getfield 35, 3) := by decide +kernel
theorem dX6_readItem_111 : decode cX6_readItem 111 = .ok (.invokevirtual 68, 3) := by decide +kernel
theorem dX6_readItem_114 : decode cX6_readItem 114 = .ok (.istore 5, 2) := by decide +kernel
theorem dX6_readItem_116 : decode cX6_readItem 116 = .ok (.aload_n 1, 1) := by decide +kernel
theorem dX6_readItem_117 : decode cX6_readItem 117 = .ok (.aload_n 0, 1) := by decide +kernel
theorem dX6_readItem_118 : decode cX6_readItem 118 = .ok (.getfield 35, 3) := by decide +kernel
theorem dX6_readItem_121 : decode cX6_readItem 121 = .ok (.invokevirtual 44, 3) := by decide +kernel
theorem dX6_readItem_124 : decode cX6_readItem 124 = .ok (.iconst 1, 1) := by decide +kernel
theorem dX6_readItem_125 : decode cX6_readItem 125 = .ok (.if_icmp .ne 9, 3) := by decide +kernel
theorem dX6_readItem_128 : decode cX6_readItem 128 = .ok (.iload 5, 2) := by decide +kernel
theorem dX6_readItem_130 : decode cX6_readItem 130 = .ok (.iload_n 2, 1) := by decide +kernel
theorem dX6_readItem_131 : decode cX6_readItem 131 = .ok (.if_icmp .lt 5, 3) := by decide +kernel
theorem dX6_readItem_134 : decode cX6_readItem 134 = .ok (.iconst 0, 1) := by decide +kernel
theorem dX6_readItem_135 : decode cX6_readItem 135 = .ok (.ireturn, 1) := by decide +kernel
theorem dX6_readItem_136 : decode cX6_readItem 136 = .ok (.aload_n 0, 1) := by decide +kernel
theorem dX6_readItem_137 : decode cX6_readItem 137 = .ok (.dup, 1) := by decide +kernel
theorem dX6_readItem_138 : decode cX6_readItem 138 = .ok (.getfield 35, 3) := by decide +kernel
theorem dX6_readItem_141 : decode cX6_readItem 141 = .ok (.iconst 1, 1) := by decide +kernel
theorem dX6_readItem_142 : decode cX6_readItem 142 = .ok (.iadd, 1) := by decide +kernel
theorem dX6_readItem_143 : decode cX6_readItem 143 = .ok (.putfield 35, 3) := by decide +kernel
theorem dX6_readItem_146 : decode cX6_readItem 146 = .ok (.aload_n 1, 1) := by decide +kernel
theorem dX6_readItem_147 : decode cX6_readItem 147 = .ok (.aload_n 0, 1) := by decide +kernel
theorem dX6_readItem_148 : decode cX6_readItem 148 = .ok (.getfield 35, 3) := by decide +kernel
theorem dX6_readItem_151 : decode cX6_readItem 151 = .ok (.invokevirtual 44, 3) := by decide +kernel
theorem dX6_readItem_154 : decode cX6_readItem 154 = .ok (.iconst 2, 1) := by decide +kernel
theorem dX6_readItem_155 : decode cX6_readItem 155 = .ok (.if_icmp .eq 5, 3) := by decide +kernel
theorem dX6_readItem_158 : decode cX6_readItem 158 = .ok (.iconst 0, 1) := by decide +kernel
theorem dX6_readItem_159 : decode cX6_readItem 159 = .ok (.ireturn, 1) := by decide +kernel
theorem dX6_readItem_160 : decode cX6_readItem 160 = .ok (.aload_n 0, 1) := by decide +kernel
theorem dX6_readItem_161 : decode cX6_readItem 161 = .ok (.dup, 1) := by decide +kernel
theorem dX6_readItem_162 : decode cX6_readItem 162 = .ok (.getfield 35, 3) := by decide +kernel
theorem dX6_readItem_165 : decode cX6_readItem 165 = .ok (.iconst 1, 1) := by decide +kernel
theorem dX6_readItem_166 : decode cX6_readItem 166 = .ok (.iadd, 1) := by decide +kernel
theorem dX6_readItem_167 : decode cX6_readItem 167 = .ok (.putfield 35, 3) := by decide +kernel
theorem dX6_readItem_170 : decode cX6_readItem 170 = .ok (.aload_n 0, 1) := by decide +kernel
theorem dX6_readItem_171 : decode cX6_readItem 171 = .ok (.iload_n 3, 1) := by decide +kernel
theorem dX6_readItem_172 : decode cX6_readItem 172 = .ok (.iload 4, 2) := by decide +kernel
theorem dX6_readItem_174 : decode cX6_readItem 174 = .ok (.iload 5, 2) := by decide +kernel
theorem dX6_readItem_176 : decode cX6_readItem 176 = .ok (.invokevirtual 71, 3) := by decide +kernel
theorem dX6_readItem_179 : decode cX6_readItem 179 = .ok (.iconst 1, 1) := by decide +kernel
theorem dX6_readItem_180 : decode cX6_readItem 180 = .ok (.ireturn, 1) := by decide +kernel
theorem dX6_mayBegin_0 : decode cX6_mayBegin 0 = .ok (.iload_n 1, 1) := by decide +kernel
theorem dX6_mayBegin_1 : decode cX6_mayBegin 1 = .ok (.invokestatic 65, 3) := by decide +kernel
theorem dX6_mayBegin_4 : decode cX6_mayBegin 4 = .ok (.ifCond .eq 27, 3) := by decide +kernel
theorem dX6_mayBegin_7 : decode cX6_mayBegin 7 = .ok (.aload_n 0, 1) := by decide +kernel
theorem dX6_mayBegin_8 : decode cX6_mayBegin 8 = .ok (.getfield 29, 3) := by decide +kernel
theorem dX6_mayBegin_11 : decode cX6_mayBegin 11 = .ok (.bipush 6, 2) := by decide +kernel
theorem dX6_mayBegin_13 : decode cX6_mayBegin 13 = .ok (.if_icmp .eq 16, 3) := by decide +kernel
theorem dX6_mayBegin_16 : decode cX6_mayBegin 16 = .ok (.aload_n 0, 1) := by decide +kernel
theorem dX6_mayBegin_17 : decode cX6_mayBegin 17 = .ok (.getfield 29, 3) := by decide +kernel
theorem dX6_mayBegin_20 : decode cX6_mayBegin 20 = .ok (.bipush 7, 2) := by decide +kernel
theorem dX6_mayBegin_22 : decode cX6_mayBegin 22 = .ok (.if_icmp .eq 7, 3) := by decide +kernel
theorem dX6_mayBegin_25 : decode cX6_mayBegin 25 = .ok (.iconst 1, 1) := by decide +kernel
theorem dX6_mayBegin_26 : decode cX6_mayBegin 26 = .ok (.goto 4, 3) := by decide +kernel
theorem dX6_mayBegin_29 : decode cX6_mayBegin 29 = .ok (.iconst 0, 1) := by decide +kernel
theorem dX6_mayBegin_30 : decode cX6_mayBegin 30 = .ok (.ireturn, 1) := by decide +kernel
theorem dX6_mayBegin_31 : decode cX6_mayBegin 31 = .ok (.iload_n 1, 1) := by decide +kernel
theorem dX6_mayBegin_32 : decode cX6_mayBegin 32 = .ok (.bipush 7, 2) := by decide +kernel
theorem dX6_mayBegin_34 : decode cX6_mayBegin 34 = .ok (.if_icmp .ne 11, 3) := by decide +kernel
theorem dX6_mayBegin_37 : decode cX6_mayBegin 37 = .ok (.aload_n 0, 1) := by decide +kernel
theorem dX6_mayBegin_38 : decode cX6_mayBegin 38 = .ok (.getfield 22, 3) := by decide +kernel
theorem dX6_mayBegin_41 : decode cX6_mayBegin 41 = .ok (.iconst (-1), 1) := by decide +kernel
theorem dX6_mayBegin_42 : decode cX6_mayBegin 42 = .ok (.if_icmp .eq 16, 3) := by decide +kernel
theorem dX6_mayBegin_45 : decode cX6_mayBegin 45 = .ok (.iload_n 1, 1) := by decide +kernel
theorem dX6_mayBegin_46 : decode cX6_mayBegin 46 = .ok (.bipush 8, 2) := by decide +kernel
theorem dX6_mayBegin_48 : decode cX6_mayBegin 48 = .ok (.if_icmp .ne 14, 3) := by decide +kernel
theorem dX6_mayBegin_51 : decode cX6_mayBegin 51 = .ok (.aload_n 0, 1) := by decide +kernel
theorem dX6_mayBegin_52 : decode cX6_mayBegin 52 = .ok (.getfield 25, 3) := by decide +kernel
theorem dX6_mayBegin_55 : decode cX6_mayBegin 55 = .ok (.ifCond .ne 7, 3) := by decide +kernel
theorem dX6_mayBegin_58 : decode cX6_mayBegin 58 = .ok (.iconst 1, 1) := by decide +kernel
theorem dX6_mayBegin_59 : decode cX6_mayBegin 59 = .ok (.goto 4, 3) := by decide +kernel
theorem dX6_mayBegin_62 : decode cX6_mayBegin 62 = .ok (.iconst 0, 1) := by decide +kernel
theorem dX6_mayBegin_63 : decode cX6_mayBegin 63 = .ok (.ireturn, 1) := by decide +kernel
theorem dX6_isLeg_0 : decode cX6_isLeg 0 = .ok (.iload_n 0, 1) := by decide +kernel
theorem dX6_isLeg_1 : decode cX6_isLeg 1 = .ok (.iconst 4, 1) := by decide +kernel
theorem dX6_isLeg_2 : decode cX6_isLeg 2 = .ok (.if_icmp .eq 14, 3) := by decide +kernel
theorem dX6_isLeg_5 : decode cX6_isLeg 5 = .ok (.iload_n 0, 1) := by decide +kernel
theorem dX6_isLeg_6 : decode cX6_isLeg 6 = .ok (.iconst 5, 1) := by decide +kernel
theorem dX6_isLeg_7 : decode cX6_isLeg 7 = .ok (.if_icmp .eq 9, 3) := by decide +kernel
theorem dX6_isLeg_10 : decode cX6_isLeg 10 = .ok (.iload_n 0, 1) := by decide +kernel
theorem dX6_isLeg_11 : decode cX6_isLeg 11 = .ok (.bipush 6, 2) := by decide +kernel
theorem dX6_isLeg_13 : decode cX6_isLeg 13 = .ok (.if_icmp .ne 7, 3) := by decide +kernel
theorem dX6_isLeg_16 : decode cX6_isLeg 16 = .ok (.iconst 1, 1) := by decide +kernel
theorem dX6_isLeg_17 : decode cX6_isLeg 17 = .ok (.goto 4, 3) := by decide +kernel
theorem dX6_isLeg_20 : decode cX6_isLeg 20 = .ok (.iconst 0, 1) := by decide +kernel
theorem dX6_isLeg_21 : decode cX6_isLeg 21 = .ok (.ireturn, 1) := by decide +kernel
theorem dX6_take_0 : decode cX6_take 0 = .ok (.iload_n 1, 1) := by decide +kernel
theorem dX6_take_1 : decode cX6_take 1 = .ok (.bipush 7, 2) := by decide +kernel
theorem dX6_take_3 : decode cX6_take 3 = .ok (.if_icmp .ne 11, 3) := by decide +kernel
theorem dX6_take_6 : decode cX6_take 6 = .ok (.aload_n 0, 1) := by decide +kernel
theorem dX6_take_7 : decode cX6_take 7 = .ok (.iload_n 3, 1) := by decide +kernel
theorem dX6_take_8 : decode cX6_take 8 = .ok (.putfield 22, 3) := by decide +kernel
theorem dX6_take_11 : decode cX6_take 11 = .ok (.goto 47, 3) := by decide +kernel
theorem dX6_take_14 : decode cX6_take 14 = .ok (.iload_n 1, 1) := by decide +kernel
theorem dX6_take_15 : decode cX6_take 15 = .ok (.bipush 8, 2) := by decide +kernel
theorem dX6_take_17 : decode cX6_take 17 = .ok (.if_icmp .ne 11, 3) := by decide +kernel
theorem dX6_take_20 : decode cX6_take 20 = .ok (.aload_n 0, 1) := by decide +kernel
theorem dX6_take_21 : decode cX6_take 21 = .ok (.iconst 1, 1) := by decide +kernel
theorem dX6_take_22 : decode cX6_take 22 = .ok (.putfield 25, 3) := by decide +kernel
theorem dX6_take_25 : decode cX6_take 25 = .ok (.goto 33, 3) := by decide +kernel
theorem dX6_take_28 : decode cX6_take 28 = .ok (.aload_n 0, 1) := by decide +kernel
theorem dX6_take_29 : decode cX6_take 29 = .ok (.iload_n 2, 1) := by decide +kernel
theorem dX6_take_30 : decode cX6_take 30 = .ok (.invokevirtual 57, 3) := by decide +kernel
theorem dX6_take_33 : decode cX6_take 33 = .ok (.aload_n 0, 1) := by decide +kernel
theorem dX6_take_34 : decode cX6_take 34 = .ok (.iload_n 1, 1) := by decide +kernel
theorem dX6_take_35 : decode cX6_take 35 = .ok (.iconst 4, 1) := by decide +kernel
theorem dX6_take_36 : decode cX6_take 36 = .ok (.if_icmp .ne 7, 3) := by decide +kernel
theorem dX6_take_39 : decode cX6_take 39 = .ok (.iload_n 3, 1) := by decide +kernel
theorem dX6_take_40 : decode cX6_take 40 = .ok (.goto 15, 3) := by decide +kernel
theorem dX6_take_43 : decode cX6_take 43 = .ok (.iload_n 1, 1) := by decide +kernel
theorem dX6_take_44 : decode cX6_take 44 = .ok (.iconst 5, 1) := by decide +kernel
theorem dX6_take_45 : decode cX6_take 45 = .ok (.if_icmp .ne 8, 3) := by decide +kernel
theorem dX6_take_48 : decode cX6_take 48 = .ok (.bipush 6, 2) := by decide +kernel
theorem dX6_take_50 : decode cX6_take 50 = .ok (.goto 5, 3) := by decide +kernel
theorem dX6_take_53 : decode cX6_take 53 = .ok (.bipush 7, 2) := by decide +kernel
theorem dX6_take_55 : decode cX6_take 55 = .ok (.putfield 29, 3) := by decide +kernel
theorem dX6_take_58 : decode cX6_take 58 = .ok (.return_, 1) := by decide +kernel
theorem dX6_stayUntil_0 : decode cX6_stayUntil 0 = .ok (.aload_n 0, 1) := by decide +kernel
theorem dX6_stayUntil_1 : decode cX6_stayUntil 1 = .ok (.getfield 32, 3) := by decide +kernel
theorem dX6_stayUntil_4 : decode cX6_stayUntil 4 = .ok (.istore_n 2, 1) := by decide +kernel
theorem dX6_stayUntil_5 : decode cX6_stayUntil 5 = .ok (.iload_n 2, 1) := by decide +kernel
theorem dX6_stayUntil_6 : decode cX6_stayUntil 6 = .ok (.iload_n 1, 1) := by decide +kernel
theorem dX6_stayUntil_7 : decode cX6_stayUntil 7 = .ok (.if_icmp .ge 25, 3) := by decide +kernel
theorem dX6_stayUntil_10 : decode cX6_stayUntil 10 = .ok (.iload_n 2, 1) := by decide +kernel
theorem dX6_stayUntil_11 : decode cX6_stayUntil 11 = .ok (.bipush 120, 2) := by decide +kernel
theorem dX6_stayUntil_13 : decode cX6_stayUntil 13 = .ok (.if_icmp .ge 19, 3) := by decide +kernel
theorem dX6_stayUntil_16 : decode cX6_stayUntil 16 = .ok (.aload_n 0, 1) := by decide +kernel
theorem dX6_stayUntil_17 : decode cX6_stayUntil 17 = .ok (.getfield 9, 3) := by decide +kernel
theorem dX6_stayUntil_20 : decode cX6_stayUntil 20 = .ok (.iload_n 2, 1) := by decide +kernel
theorem dX6_stayUntil_21 : decode cX6_stayUntil 21 = .ok (.aload_n 0, 1) := by decide +kernel
theorem dX6_stayUntil_22 : decode cX6_stayUntil 22 = .ok (.getfield 29, 3) := by decide +kernel
theorem dX6_stayUntil_25 : decode cX6_stayUntil 25 = .ok (.iastore, 1) := by decide +kernel
theorem dX6_stayUntil_26 : decode cX6_stayUntil 26 = .ok (.iinc 2 1, 3) := by decide +kernel
theorem dX6_stayUntil_29 : decode cX6_stayUntil 29 = .ok (.goto (-24), 3) := by decide +kernel
theorem dX6_stayUntil_32 : decode cX6_stayUntil 32 = .ok (.aload_n 0, 1) := by decide +kernel
theorem dX6_stayUntil_33 : decode cX6_stayUntil 33 = .ok (.getfield 29, 3) := by decide +kernel
theorem dX6_stayUntil_36 : decode cX6_stayUntil 36 = .ok (.bipush 6, 2) := by decide +kernel
theorem dX6_stayUntil_38 : decode cX6_stayUntil 38 = .ok (.if_icmp .ge 21, 3) := by decide +kernel
theorem dX6_stayUntil_41 : decode cX6_stayUntil 41 = .ok (.aload_n 0, 1) := by decide +kernel
theorem dX6_stayUntil_42 : decode cX6_stayUntil 42 = .ok (.getfield 15, 3) := by decide +kernel
theorem dX6_stayUntil_45 : decode cX6_stayUntil 45 = .ok (.aload_n 0, 1) := by decide +kernel
theorem dX6_stayUntil_46 : decode cX6_stayUntil 46 = .ok (.getfield 29, 3) := by decide +kernel
theorem dX6_stayUntil_49 : decode cX6_stayUntil 49 = .ok (.dup2, 1) := by decide +kernel
theorem dX6_stayUntil_50 : decode cX6_stayUntil 50 = .ok (.iaload, 1) := by decide +kernel
theorem dX6_stayUntil_51 : decode cX6_stayUntil 51 = .ok (.iload_n 1, 1) := by decide +kernel
theorem dX6_stayUntil_52 : decode cX6_stayUntil 52 = .ok (.aload_n 0, 1) := by decide +kernel
theorem dX6_stayUntil_53 : decode cX6_stayUntil 53 = .ok (.getfield 32, 3) := by decide +kernel
theorem dX6_stayUntil_56 : decode cX6_stayUntil 56 = .ok (.isub, 1) := by decide +kernel
theorem dX6_stayUntil_57 : decode cX6_stayUntil 57 = .ok (.iadd, 1) := by decide +kernel
theorem dX6_stayUntil_58 : decode cX6_stayUntil 58 = .ok (.iastore, 1) := by decide +kernel
theorem dX6_stayUntil_59 : decode cX6_stayUntil 59 = .ok (.aload_n 0, 1) := by decide +kernel
theorem dX6_stayUntil_60 : decode cX6_stayUntil 60 = .ok (.iload_n 1, 1) := by decide +kernel
theorem dX6_stayUntil_61 : decode cX6_stayUntil 61 = .ok (.putfield 32, 3) := by decide +kernel
theorem dX6_stayUntil_64 : decode cX6_stayUntil 64 = .ok (.return_, 1) := by decide +kernel
theorem dX7_init_0 : decode cX7_init 0 = .ok (.aload_n 0, 1) := by decide +kernel
theorem dX7_init_1 : decode cX7_init 1 = .ok (.invokespecial 3, 3) := by decide +kernel
theorem dX7_init_4 : decode cX7_init 4 = .ok (.aload_n 0, 1) := by decide +kernel
theorem dX7_init_5 : decode cX7_init 5 = .ok (.bipush 121, 2) := by decide +kernel
theorem dX7_init_7 : decode cX7_init 7 = .ok (.newarray .int, 2) := by decide +kernel
theorem dX7_init_9 : decode cX7_init 9 = .ok (.putfield 9, 3) := by decide +kernel
theorem dX7_init_12 : decode cX7_init 12 = .ok (.aload_n 0, 1) := by decide +kernel
theorem dX7_init_13 : decode cX7_init 13 = .ok (.bipush 121, 2) := by decide +kernel
theorem dX7_init_15 : decode cX7_init 15 = .ok (.newarray .int, 2) := by decide +kernel
theorem dX7_init_17 : decode cX7_init 17 = .ok (.putfield 15, 3) := by decide +kernel
theorem dX7_init_20 : decode cX7_init 20 = .ok (.aload_n 0, 1) := by decide +kernel
theorem dX7_init_21 : decode cX7_init 21 = .ok (.bipush 121, 2) := by decide +kernel
theorem dX7_init_23 : decode cX7_init 23 = .ok (.newarray .int, 2) := by decide +kernel
theorem dX7_init_25 : decode cX7_init 25 = .ok (.putfield 18, 3) := by decide +kernel
theorem dX7_init_28 : decode cX7_init 28 = .ok (.return_, 1) := by decide +kernel
theorem dX7_read_0 : decode cX7_read 0 = .ok (.aload_n 0, 1) := by decide +kernel
theorem dX7_read_1 : decode cX7_read 1 = .ok (.iconst 0, 1) := by decide +kernel
theorem dX7_read_2 : decode cX7_read 2 = .ok (.putfield 21, 3) := by decide +kernel
theorem dX7_read_5 : decode cX7_read 5 = .ok (.aload_n 0, 1) := by decide +kernel
theorem dX7_read_6 : decode cX7_read 6 = .ok (.iconst 0, 1) := by decide +kernel
theorem dX7_read_7 : decode cX7_read 7 = .ok (.putfield 25, 3) := by decide +kernel
theorem dX7_read_10 : decode cX7_read 10 = .ok (.aload_n 0, 1) := by decide +kernel
theorem dX7_read_11 : decode cX7_read 11 = .ok (.getfield 25, 3) := by decide +kernel
theorem dX7_read_14 : decode cX7_read 14 = .ok (.iload_n 2, 1) := by decide +kernel
theorem dX7_read_15 : decode cX7_read 15 = .ok (.if_icmp .ge 98, 3) := by decide +kernel
theorem dX7_read_18 : decode cX7_read 18 = .ok (.aload_n 0, 1) := by decide +kernel
theorem dX7_read_19 : decode cX7_read 19 = .ok (.getfield 25, 3) := by decide +kernel
theorem dX7_read_22 : decode cX7_read 22 = .ok (.aload_n 1, 1) := by decide +kernel
theorem dX7_read_23 : decode cX7_read 23 = .ok (.arraylength, 1) := by decide +kernel
theorem dX7_read_24 : decode cX7_read 24 = .ok (.if_icmp .ge 89, 3) := by decide +kernel
theorem dX7_read_27 : decode cX7_read 27 = .ok (.aload_n 1, 1) := by decide +kernel
theorem dX7_read_28 : decode cX7_read 28 = .ok (.aload_n 0, 1) := by decide +kernel
theorem dX7_read_29 : decode cX7_read 29 = .ok (.getfield 25, 3) := by decide +kernel
theorem dX7_read_32 : decode cX7_read 32 = .ok (.iaload, 1) := by decide +kernel
theorem dX7_read_33 : decode cX7_read 33 = .ok (.istore_n 3, 1) := by decide +kernel
theorem dX7_read_34 : decode cX7_read 34 = .ok (.aload_n 0, 1) := by decide +kernel
theorem dX7_read_35 : decode cX7_read 35 = .ok (.getfield 25, 3) := by decide +kernel
theorem dX7_read_38 : decode cX7_read 38 = .ok (.istore 4, 2) := by decide +kernel
theorem dX7_read_40 : decode cX7_read 40 = .ok (.aload_n 0, 1) := by decide +kernel
theorem dX7_read_41 : decode cX7_read 41 = .ok (.dup, 1) := by decide +kernel
theorem dX7_read_42 : decode cX7_read 42 = .ok (.getfield 25, 3) := by decide +kernel
theorem dX7_read_45 : decode cX7_read 45 = .ok (.iconst 1, 1) := by decide +kernel
theorem dX7_read_46 : decode cX7_read 46 = .ok (.iadd, 1) := by decide +kernel
theorem dX7_read_47 : decode cX7_read 47 = .ok (.putfield 25, 3) := by decide +kernel
theorem dX7_read_50 : decode cX7_read 50 = .ok (.iload_n 3, 1) := by decide +kernel
theorem dX7_read_51 : decode cX7_read 51 = .ok (.invokestatic 28, 3) := by decide +kernel
theorem dX7_read_54 : decode cX7_read 54 = .ok (.ifCond .eq 14, 3) := by decide +kernel
theorem dX7_read_57 : decode cX7_read 57 = .ok (.aload_n 0, 1) := by decide +kernel
theorem dX7_read_58 : decode cX7_read 58 = .ok (.aload_n 1, 1) := by decide +kernel
theorem dX7_read_59 : decode cX7_read 59 = .ok (.iload_n 2, 1) := by decide +kernel
theorem dX7_read_60 : decode cX7_read 60 = .ok (.iload 4, 2) := by decide +kernel
theorem dX7_read_62 : decode cX7_read 62 = .ok (.invokevirtual 32, 3) := by decide +kernel
theorem dX7_read_65 : decode cX7_read 65 = .ok (.goto 45, 3) := by decide +kernel
theorem dX7_read_68 : decode cX7_read 68 = .ok (.iload_n 3, 1) := by decide +kernel
theorem dX7_read_69 : decode cX7_read 69 = .ok (.invokestatic 36, 3) := by decide +kernel
theorem dX7_read_72 : decode cX7_read 72 = .ok (.ifCond .eq 14, 3) := by decide +kernel
theorem dX7_read_75 : decode cX7_read 75 = .ok (.aload_n 0, 1) := by decide +kernel
theorem dX7_read_76 : decode cX7_read 76 = .ok (.aload_n 1, 1) := by decide +kernel
theorem dX7_read_77 : decode cX7_read 77 = .ok (.iload_n 2, 1) := by decide +kernel
theorem dX7_read_78 : decode cX7_read 78 = .ok (.iload 4, 2) := by decide +kernel
theorem dX7_read_80 : decode cX7_read 80 = .ok (.invokevirtual 39, 3) := by decide +kernel
theorem dX7_read_83 : decode cX7_read 83 = .ok (.goto 27, 3) := by decide +kernel
theorem dX7_read_86 : decode cX7_read 86 = .ok (.iload_n 3, 1) := by decide +kernel
theorem dX7_read_87 : decode cX7_read 87 = .ok (.bipush 32, 2) := by decide +kernel
theorem dX7_read_89 : decode cX7_read 89 = .ok (.if_icmp .eq 21, 3) := by decide +kernel
theorem dX7_read_92 : decode cX7_read 92 = .ok (.aload_n 0, 1) := by decide +kernel
theorem dX7_read_93 : decode cX7_read 93 = .ok (.iload 4, 2) := by decide +kernel
theorem dX7_read_95 : decode cX7_read 95 = .ok (.iload_n 3, 1) := by decide +kernel
theorem dX7_read_96 : decode cX7_read 96 = .ok (.bipush 59, 2) := by decide +kernel
theorem dX7_read_98 : decode cX7_read 98 = .ok (.if_icmp .ne 7, 3) := by decide +kernel
theorem dX7_read_101 : decode cX7_read 101 = .ok (.iconst 2, 1) := by decide +kernel
theorem dX7_read_102 : decode cX7_read 102 = .ok (.goto 4, 3) := by decide +kernel
theorem dX7_read_105 : decode cX7_read 105 = .ok (.iconst 3, 1) := by decide +kernel
theorem dX7_read_106 : decode cX7_read 106 = .ok (.iconst 0, 1) := by decide +kernel
theorem dX7_read_107 : decode cX7_read 107 = .ok (.invokevirtual 42, 3) := by decide +kernel
theorem dX7_read_110 : decode cX7_read 110 = .ok (.goto (-100), 3) := by decide +kernel
theorem dX7_read_113 : decode cX7_read 113 = .ok (.aload_n 0, 1) := by decide +kernel
theorem dX7_read_114 : decode cX7_read 114 = .ok (.iload_n 2, 1) := by decide +kernel
theorem dX7_read_115 : decode cX7_read 115 = .ok (.iconst 0, 1) := by decide +kernel
theorem dX7_read_116 : decode cX7_read 116 = .ok (.iconst 0, 1) := by decide +kernel
theorem dX7_read_117 : decode cX7_read 117 = .ok (.invokevirtual 42, 3) := by decide +kernel
theorem dX7_read_120 : decode cX7_read 120 = .ok (.return_, 1) := by decide +kernel
theorem dX7_tokenAt_0 : decode cX7_tokenAt 0 = .ok (.iload_n 1, 1) := by decide +kernel
theorem dX7_tokenAt_1 : decode cX7_tokenAt 1 = .ok (.ifCond .lt 20, 3) := by decide +kernel
theorem dX7_tokenAt_4 : decode cX7_tokenAt 4 = .ok (.iload_n 1, 1) := by decide +kernel
theorem dX7_tokenAt_5 : decode cX7_tokenAt 5 = .ok (.aload_n 0, 1) := by decide +kernel
theorem dX7_tokenAt_6 : decode cX7_tokenAt 6 = .ok (.getfield 21, 3) := by decide +kernel
theorem dX7_tokenAt_9 : decode cX7_tokenAt 9 = .ok (.if_icmp .ge 12, 3) := by decide +kernel
theorem dX7_tokenAt_12 : decode cX7_tokenAt 12 = .ok (.aload_n 0, 1) := by decide +kernel
theorem dX7_tokenAt_13 : decode cX7_tokenAt 13 = .ok (.getfield 15, 3) := by decide +kernel
theorem dX7_tokenAt_16 : decode cX7_tokenAt 16 = .ok (.iload_n 1, 1) := by decide +kernel
theorem dX7_tokenAt_17 : decode cX7_tokenAt 17 = .ok (.iaload, 1) := by decide +kernel
theorem dX7_tokenAt_18 : decode cX7_tokenAt 18 = .ok (.goto 4, 3) := by decide +kernel
theorem dX7_tokenAt_21 : decode cX7_tokenAt 21 = .ok (.iconst 0, 1) := by decide +kernel
theorem dX7_tokenAt_22 : decode cX7_tokenAt 22 = .ok (.ireturn, 1) := by decide +kernel
theorem dX7_startAt_0 : decode cX7_startAt 0 = .ok (.iload_n 1, 1) := by decide +kernel
theorem dX7_startAt_1 : decode cX7_startAt 1 = .ok (.ifCond .lt 20, 3) := by decide +kernel
theorem dX7_startAt_4 : decode cX7_startAt 4 = .ok (.iload_n 1, 1) := by decide +kernel
theorem dX7_startAt_5 : decode cX7_startAt 5 = .ok (.aload_n 0, 1) := by decide +kernel
theorem dX7_startAt_6 : decode cX7_startAt 6 = .ok (.getfield 21, 3) := by decide +kernel
theorem dX7_startAt_9 : decode cX7_startAt 9 = .ok (.if_icmp .ge 12, 3) := by decide +kernel
theorem dX7_startAt_12 : decode cX7_startAt 12 = .ok (.aload_n 0, 1) := by decide +kernel
theorem dX7_startAt_13 : decode cX7_startAt 13 = .ok (.getfield 9, 3) := by decide +kernel
theorem dX7_startAt_16 : decode cX7_startAt 16 = .ok (.iload_n 1, 1) := by decide +kernel
theorem dX7_startAt_17 : decode cX7_startAt 17 = .ok (.iaload, 1) := by decide +kernel
theorem dX7_startAt_18 : decode cX7_startAt 18 = .ok (.goto 4, 3) := by decide +kernel
theorem dX7_startAt_21 : decode cX7_startAt 21 = .ok (.iconst 0, 1) := by decide +kernel
theorem dX7_startAt_22 : decode cX7_startAt 22 = .ok (.ireturn, 1) := by decide +kernel
theorem dX7_valueAt_0 : decode cX7_valueAt 0 = .ok (.iload_n 1, 1) := by decide +kernel
theorem dX7_valueAt_1 : decode cX7_valueAt 1 = .ok (.ifCond .lt 20, 3) := by decide +kernel
theorem dX7_valueAt_4 : decode cX7_valueAt 4 = .ok (.iload_n 1, 1) := by decide +kernel
theorem dX7_valueAt_5 : decode cX7_valueAt 5 = .ok (.aload_n 0, 1) := by decide +kernel
theorem dX7_valueAt_6 : decode cX7_valueAt 6 = .ok (.getfield 21, 3) := by decide +kernel
theorem dX7_valueAt_9 : decode cX7_valueAt 9 = .ok (.if_icmp .ge 12, 3) := by decide +kernel
theorem dX7_valueAt_12 : decode cX7_valueAt 12 = .ok (.aload_n 0, 1) := by decide +kernel
theorem dX7_valueAt_13 : decode cX7_valueAt 13 = .ok (.getfield 18, 3) := by decide +kernel
theorem dX7_valueAt_16 : decode cX7_valueAt 16 = .ok (.iload_n 1, 1) := by decide +kernel
theorem dX7_valueAt_17 : decode cX7_valueAt 17 = .ok (.iaload, 1) := by decide +kernel
theorem dX7_valueAt_18 : decode cX7_valueAt 18 = .ok (.goto 4, 3) := by decide +kernel
theorem dX7_valueAt_21 : decode cX7_valueAt 21 = .ok (.iconst 0, 1) := by decide +kernel
theorem dX7_valueAt_22 : decode cX7_valueAt 22 = .ok (.ireturn, 1) := by decide +kernel
theorem dX7_keep_0 : decode cX7_keep 0 = .ok (.aload_n 0, 1) := by decide +kernel
theorem dX7_keep_1 : decode cX7_keep 1 = .ok (.getfield 21, 3) := by decide +kernel
theorem dX7_keep_4 : decode cX7_keep 4 = .ok (.aload_n 0, 1) := by decide +kernel
theorem dX7_keep_5 : decode cX7_keep 5 = .ok (.getfield 15, 3) := by decide +kernel
theorem dX7_keep_8 : decode cX7_keep 8 = .ok (.arraylength, 1) := by decide +kernel
theorem dX7_keep_9 : decode cX7_keep 9 = .ok (.if_icmp .ge 43, 3) := by decide +kernel
theorem dX7_keep_12 : decode cX7_keep 12 = .ok (.aload_n 0, 1) := by decide +kernel
theorem dX7_keep_13 : decode cX7_keep 13 = .ok (.getfield 9, 3) := by decide +kernel
theorem dX7_keep_16 : decode cX7_keep 16 = .ok (.aload_n 0, 1) := by decide +kernel
theorem dX7_keep_17 : decode cX7_keep 17 = .ok (.getfield 21, 3) := by decide +kernel
theorem dX7_keep_20 : decode cX7_keep 20 = .ok (.iload_n 1, 1) := by decide +kernel
theorem dX7_keep_21 : decode cX7_keep 21 = .ok (.iastore, 1) := by decide +kernel
theorem dX7_keep_22 : decode cX7_keep 22 = .ok (.aload_n 0, 1) := by decide +kernel
theorem dX7_keep_23 : decode cX7_keep 23 = .ok (.getfield 15, 3) := by decide +kernel
theorem dX7_keep_26 : decode cX7_keep 26 = .ok (.aload_n 0, 1) := by decide +kernel
theorem dX7_keep_27 : decode cX7_keep 27 = .ok (.getfield 21, 3) := by decide +kernel
theorem dX7_keep_30 : decode cX7_keep 30 = .ok (.iload_n 2, 1) := by decide +kernel
theorem dX7_keep_31 : decode cX7_keep 31 = .ok (.iastore, 1) := by decide +kernel
theorem dX7_keep_32 : decode cX7_keep 32 = .ok (.aload_n 0, 1) := by decide +kernel
theorem dX7_keep_33 : decode cX7_keep 33 = .ok (.getfield 18, 3) := by decide +kernel
theorem dX7_keep_36 : decode cX7_keep 36 = .ok (.aload_n 0, 1) := by decide +kernel
theorem dX7_keep_37 : decode cX7_keep 37 = .ok (.getfield 21, 3) := by decide +kernel
theorem dX7_keep_40 : decode cX7_keep 40 = .ok (.iload_n 3, 1) := by decide +kernel
theorem dX7_keep_41 : decode cX7_keep 41 = .ok (.iastore, 1) := by decide +kernel
theorem dX7_keep_42 : decode cX7_keep 42 = .ok (.aload_n 0, 1) := by decide +kernel
theorem dX7_keep_43 : decode cX7_keep 43 = .ok (.dup, 1) := by decide +kernel
theorem dX7_keep_44 : decode cX7_keep 44 = .ok (.getfield 21, 3) := by decide +kernel
theorem dX7_keep_47 : decode cX7_keep 47 = .ok (.iconst 1, 1) := by decide +kernel
theorem dX7_keep_48 : decode cX7_keep 48 = .ok (.iadd, 1) := by decide +kernel
theorem dX7_keep_49 : decode cX7_keep 49 = .ok (.putfield 21, 3) := by decide +kernel
theorem dX7_keep_52 : decode cX7_keep 52 = .ok (.return_, 1) := by decide +kernel
theorem dX7_readLetters_0 : decode cX7_readLetters 0 = .ok (.aload_n 1, 1) := by decide +kernel
theorem dX7_readLetters_1 : decode cX7_readLetters 1 = .ok (.iload_n 3, 1) := by decide +kernel
theorem dX7_readLetters_2 : decode cX7_readLetters 2 = .ok (.iaload, 1) := by decide +kernel
theorem dX7_readLetters_3 : decode cX7_readLetters 3 = .ok (.i2l, 1) := by decide +kernel
theorem dX7_readLetters_4 : decode cX7_readLetters 4 = .ok (.lstore 4, 2) := by decide +kernel
theorem dX7_readLetters_6 : decode cX7_readLetters 6 = .ok (.aload_n 0, 1) := by decide +kernel
theorem dX7_readLetters_7 : decode cX7_readLetters 7 = .ok (.getfield 25, 3) := by decide +kernel
theorem dX7_readLetters_10 : decode cX7_readLetters 10 = .ok (.iload_n 2, 1) := by decide +kernel
theorem dX7_readLetters_11 : decode cX7_readLetters 11 = .ok (.if_icmp .ge 43, 3) := by decide +kernel
theorem dX7_readLetters_14 : decode cX7_readLetters 14 = .ok (.aload_n 1, 1) := by decide +kernel
theorem dX7_readLetters_15 : decode cX7_readLetters 15 = .ok (.aload_n 0, 1) := by decide +kernel
theorem dX7_readLetters_16 : decode cX7_readLetters 16 = .ok (.getfield 25, 3) := by decide +kernel
theorem dX7_readLetters_19 : decode cX7_readLetters 19 = .ok (.iaload, 1) := by decide +kernel
theorem dX7_readLetters_20 : decode cX7_readLetters 20 = .ok (.invokestatic 28, 3) := by decide +kernel
theorem dX7_readLetters_23 : decode cX7_readLetters 23 = .ok (.ifCond .eq 31, 3) := by decide +kernel
theorem dX7_readLetters_26 : decode cX7_readLetters 26 = .ok (.lload 4, 2) := by decide +kernel
theorem dX7_readLetters_28 : decode cX7_readLetters 28 = .ok (.bipush 8, 2) := by decide +kernel
theorem dX7_readLetters_30 : decode cX7_readLetters 30 = .ok (.lshl, 1) := by decide +kernel
theorem dX7_readLetters_31 : decode cX7_readLetters 31 = .ok (.aload_n 1, 1) := by decide +kernel
theorem dX7_readLetters_32 : decode cX7_readLetters 32 = .ok (.aload_n 0, 1) := by decide +kernel
theorem dX7_readLetters_33 : decode cX7_readLetters 33 = .ok (.getfield 25, 3) := by decide +kernel
theorem dX7_readLetters_36 : decode cX7_readLetters 36 = .ok (.iaload, 1) := by decide +kernel
theorem dX7_readLetters_37 : decode cX7_readLetters 37 = .ok (.i2l, 1) := by decide +kernel
theorem dX7_readLetters_38 : decode cX7_readLetters 38 = .ok (.lor, 1) := by decide +kernel
theorem dX7_readLetters_39 : decode cX7_readLetters 39 = .ok (.lstore 4, 2) := by decide +kernel
theorem dX7_readLetters_41 : decode cX7_readLetters 41 = .ok (.aload_n 0, 1) := by decide +kernel
theorem dX7_readLetters_42 : decode cX7_readLetters 42 = .ok (.dup, 1) := by decide +kernel
theorem dX7_readLetters_43 : decode cX7_readLetters 43 = .ok (.getfield 25, 3) := by decide +kernel
theorem dX7_readLetters_46 : decode cX7_readLetters 46 = .ok (.iconst 1, 1) := by decide +kernel
theorem dX7_readLetters_47 : decode cX7_readLetters 47 = .ok (.iadd, 1) := by decide +kernel
theorem dX7_readLetters_48 : decode cX7_readLetters 48 = .ok (.putfield 25, 3) := by decide +kernel
theorem dX7_readLetters_51 : decode cX7_readLetters 51 = .ok (.goto (-45), 3) := by decide +kernel
theorem dX7_readLetters_54 : decode cX7_readLetters 54 = .ok (.aload_n 0, 1) := by decide +kernel
theorem dX7_readLetters_55 : decode cX7_readLetters 55 = .ok (.iload_n 3, 1) := by decide +kernel
theorem dX7_readLetters_56 : decode cX7_readLetters 56 = .ok (.lload 4, 2) := by decide +kernel
theorem dX7_readLetters_58 : decode cX7_readLetters 58 = .ok (.invokestatic 46, 3) := by decide +kernel
theorem dX7_readLetters_61 : decode cX7_readLetters 61 = .ok (.iconst 0, 1) := by decide +kernel
theorem dX7_readLetters_62 : decode cX7_readLetters 62 = .ok (.invokevirtual 42, 3) := by decide +kernel
theorem dX7_readLetters_65 : decode cX7_readLetters 65 = .ok (.return_, 1) := by decide +kernel
theorem dX7_wordOf_0 : decode cX7_wordOf 0 = .ok (.lload_n 0, 1) := by decide +kernel
theorem dX7_wordOf_1 : decode cX7_wordOf 1 = .ok (.ldc2_w 50, 3) := by decide +kernel
theorem dX7_wordOf_4 : decode cX7_wordOf 4 = .ok (.lcmp, 1) := by decide +kernel
theorem dX7_wordOf_5 : decode cX7_wordOf 5 = .ok (.ifCond .ne 5, 3) := by decide +kernel
theorem dX7_wordOf_8 : decode cX7_wordOf 8 = .ok (.iconst 4, 1) := by decide +kernel
theorem dX7_wordOf_9 : decode cX7_wordOf 9 = .ok (.ireturn, 1) := by decide +kernel
theorem dX7_wordOf_10 : decode cX7_wordOf 10 = .ok (.lload_n 0, 1) := by decide +kernel
theorem dX7_wordOf_11 : decode cX7_wordOf 11 = .ok (.ldc2_w 52, 3) := by decide +kernel
theorem dX7_wordOf_14 : decode cX7_wordOf 14 = .ok (.lcmp, 1) := by decide +kernel
theorem dX7_wordOf_15 : decode cX7_wordOf 15 = .ok (.ifCond .ne 5, 3) := by decide +kernel
theorem dX7_wordOf_18 : decode cX7_wordOf 18 = .ok (.iconst 5, 1) := by decide +kernel
theorem dX7_wordOf_19 : decode cX7_wordOf 19 = .ok (.ireturn, 1) := by decide +kernel
theorem dX7_wordOf_20 : decode cX7_wordOf 20 = .ok (.lload_n 0, 1) := by decide +kernel
theorem dX7_wordOf_21 : decode cX7_wordOf 21 = .ok (.ldc2_w 54, 3) := by decide +kernel
theorem dX7_wordOf_24 : decode cX7_wordOf 24 = .ok (.lcmp, 1) := by decide +kernel
theorem dX7_wordOf_25 : decode cX7_wordOf 25 = .ok (.ifCond .ne 6, 3) := by decide +kernel
theorem dX7_wordOf_28 : decode cX7_wordOf 28 = .ok (.bipush 6, 2) := by decide +kernel
theorem dX7_wordOf_30 : decode cX7_wordOf 30 = .ok (.ireturn, 1) := by decide +kernel
theorem dX7_wordOf_31 : decode cX7_wordOf 31 = .ok (.lload_n 0, 1) := by decide +kernel
theorem dX7_wordOf_32 : decode cX7_wordOf 32 = .ok (.ldc2_w 56, 3) := by decide +kernel
theorem dX7_wordOf_35 : decode cX7_wordOf 35 = .ok (.lcmp, 1) := by decide +kernel
theorem dX7_wordOf_36 : decode cX7_wordOf 36 = .ok (.ifCond .ne 6, 3) := by decide +kernel
theorem dX7_wordOf_39 : decode cX7_wordOf 39 = .ok (.bipush 7, 2) := by decide +kernel
theorem dX7_wordOf_41 : decode cX7_wordOf 41 = .ok (.ireturn, 1) := by decide +kernel
theorem dX7_wordOf_42 : decode cX7_wordOf 42 = .ok (.lload_n 0, 1) := by decide +kernel
theorem dX7_wordOf_43 : decode cX7_wordOf 43 = .ok (.ldc2_w 58, 3) := by decide +kernel
theorem dX7_wordOf_46 : decode cX7_wordOf 46 = .ok (.lcmp, 1) := by decide +kernel
theorem dX7_wordOf_47 : decode cX7_wordOf 47 = .ok (.ifCond .ne 8, 3) := by decide +kernel
theorem dX7_wordOf_50 : decode cX7_wordOf 50 = .ok (.bipush 8, 2) := by decide +kernel
theorem dX7_wordOf_52 : decode cX7_wordOf 52 = .ok (.goto 4, 3) := by decide +kernel
theorem dX7_wordOf_55 : decode cX7_wordOf 55 = .ok (.iconst 3, 1) := by decide +kernel
theorem dX7_wordOf_56 : decode cX7_wordOf 56 = .ok (.ireturn, 1) := by decide +kernel
theorem dX7_readFigures_0 : decode cX7_readFigures 0 = .ok (.aload_n 1, 1) := by decide +kernel
theorem dX7_readFigures_1 : decode cX7_readFigures 1 = .ok (.iload_n 3, 1) := by decide +kernel
theorem dX7_readFigures_2 : decode cX7_readFigures 2 = .ok (.iaload, 1) := by decide +kernel
theorem dX7_readFigures_3 : decode cX7_readFigures 3 = .ok (.bipush 48, 2) := by decide +kernel
theorem dX7_readFigures_5 : decode cX7_readFigures 5 = .ok (.isub, 1) := by decide +kernel
theorem dX7_readFigures_6 : decode cX7_readFigures 6 = .ok (.istore 4, 2) := by decide +kernel
theorem dX7_readFigures_8 : decode cX7_readFigures 8 = .ok (.aload_n 0, 1) := by decide +kernel
theorem dX7_readFigures_9 : decode cX7_readFigures 9 = .ok (.getfield 25, 3) := by decide +kernel
theorem dX7_readFigures_12 : decode cX7_readFigures 12 = .ok (.iload_n 2, 1) := by decide +kernel
theorem dX7_readFigures_13 : decode cX7_readFigures 13 = .ok (.if_icmp .ge 55, 3) := by decide +kernel
theorem dX7_readFigures_16 : decode cX7_readFigures 16 = .ok (.aload_n 1, 1) := by decide +kernel
theorem dX7_readFigures_17 : decode cX7_readFigures 17 = .ok (.aload_n 0, 1) := by decide +kernel
theorem dX7_readFigures_18 : decode cX7_readFigures 18 = .ok (.getfield 25, 3) := by decide +kernel
theorem dX7_readFigures_21 : decode cX7_readFigures 21 = .ok (.iaload, 1) := by decide +kernel
theorem dX7_readFigures_22 : decode cX7_readFigures 22 = .ok (.invokestatic 36, 3) := by decide +kernel
theorem dX7_readFigures_25 : decode cX7_readFigures 25 = .ok (.ifCond .eq 43, 3) := by decide +kernel
theorem dX7_readFigures_28 : decode cX7_readFigures 28 = .ok (.aload_n 0, 1) := by decide +kernel
theorem dX7_readFigures_29 : decode cX7_readFigures 29 = .ok (.getfield 25, 3) := by decide +kernel
theorem dX7_readFigures_32 : decode cX7_readFigures 32 = .ok (.iload_n 3, 1) := by decide +kernel
theorem dX7_readFigures_33 : decode cX7_readFigures 33 = .ok (.isub, 1) := by decide +kernel
theorem dX7_readFigures_34 : decode cX7_readFigures 34 = .ok (.iconst 3, 1) := by decide +kernel
theorem dX7_readFigures_35 : decode cX7_readFigures 35 = .ok (.if_icmp .ge 20, 3) := by decide +kernel
theorem dX7_readFigures_38 : decode cX7_readFigures 38 = .ok (.bipush 10, 2) := by decide +kernel
theorem dX7_readFigures_40 : decode cX7_readFigures 40 = .ok (.iload 4, 2) := by decide +kernel
theorem dX7_readFigures_42 : decode cX7_readFigures 42 = .ok (.imul, 1) := by decide +kernel
theorem dX7_readFigures_43 : decode cX7_readFigures 43 = .ok (.aload_n 1, 1) := by decide +kernel
theorem dX7_readFigures_44 : decode cX7_readFigures 44 = .ok (.aload_n 0, 1) := by decide +kernel
theorem dX7_readFigures_45 : decode cX7_readFigures 45 = .ok (.getfield 25, 3) := by decide +kernel
theorem dX7_readFigures_48 : decode cX7_readFigures 48 = .ok (.iaload, 1) := by decide +kernel
theorem dX7_readFigures_49 : decode cX7_readFigures 49 = .ok (.iadd, 1) := by decide +kernel
theorem dX7_readFigures_50 : decode cX7_readFigures 50 = .ok (.bipush 48, 2) := by decide +kernel
theorem dX7_readFigures_52 : decode cX7_readFigures 52 = .ok (.isub, 1) := by decide +kernel
theorem dX7_readFigures_53 : decode cX7_readFigures 53 = .ok (.istore 4, 2) := by decide +kernel
theorem dX7_readFigures_55 : decode cX7_readFigures 55 = .ok (.aload_n 0, 1) := by decide +kernel
theorem dX7_readFigures_56 : decode cX7_readFigures 56 = .ok (.dup, 1) := by decide +kernel
theorem dX7_readFigures_57 : decode cX7_readFigures 57 = .ok (.getfield 25, 3) := by decide +kernel
theorem dX7_readFigures_60 : decode cX7_readFigures 60 = .ok (.iconst 1, 1) := by decide +kernel
theorem dX7_readFigures_61 : decode cX7_readFigures 61 = .ok (.iadd, 1) := by decide +kernel
theorem dX7_readFigures_62 : decode cX7_readFigures 62 = .ok (.putfield 25, 3) := by decide +kernel
theorem dX7_readFigures_65 : decode cX7_readFigures 65 = .ok (.goto (-57), 3) := by decide +kernel
theorem dX7_readFigures_68 : decode cX7_readFigures 68 = .ok (.aload_n 0, 1) := by decide +kernel
theorem dX7_readFigures_69 : decode cX7_readFigures 69 = .ok (.iload_n 3, 1) := by decide +kernel
theorem dX7_readFigures_70 : decode cX7_readFigures 70 = .ok (.aload_n 0, 1) := by decide +kernel
theorem dX7_readFigures_71 : decode cX7_readFigures 71 = .ok (.getfield 25, 3) := by decide +kernel
theorem dX7_readFigures_74 : decode cX7_readFigures 74 = .ok (.iload_n 3, 1) := by decide +kernel
theorem dX7_readFigures_75 : decode cX7_readFigures 75 = .ok (.isub, 1) := by decide +kernel
theorem dX7_readFigures_76 : decode cX7_readFigures 76 = .ok (.iconst 3, 1) := by decide +kernel
theorem dX7_readFigures_77 : decode cX7_readFigures 77 = .ok (.if_icmp .gt 7, 3) := by decide +kernel
theorem dX7_readFigures_80 : decode cX7_readFigures 80 = .ok (.iconst 1, 1) := by decide +kernel
theorem dX7_readFigures_81 : decode cX7_readFigures 81 = .ok (.goto 4, 3) := by decide +kernel
theorem dX7_readFigures_84 : decode cX7_readFigures 84 = .ok (.iconst 3, 1) := by decide +kernel
theorem dX7_readFigures_85 : decode cX7_readFigures 85 = .ok (.iload 4, 2) := by decide +kernel
theorem dX7_readFigures_87 : decode cX7_readFigures 87 = .ok (.invokevirtual 42, 3) := by decide +kernel
theorem dX7_readFigures_90 : decode cX7_readFigures 90 = .ok (.return_, 1) := by decide +kernel
theorem dX7_isLetter_0 : decode cX7_isLetter 0 = .ok (.iload_n 0, 1) := by decide +kernel
theorem dX7_isLetter_1 : decode cX7_isLetter 1 = .ok (.bipush 97, 2) := by decide +kernel
theorem dX7_isLetter_3 : decode cX7_isLetter 3 = .ok (.if_icmp .lt 13, 3) := by decide +kernel
theorem dX7_isLetter_6 : decode cX7_isLetter 6 = .ok (.iload_n 0, 1) := by decide +kernel
theorem dX7_isLetter_7 : decode cX7_isLetter 7 = .ok (.bipush 122, 2) := by decide +kernel
theorem dX7_isLetter_9 : decode cX7_isLetter 9 = .ok (.if_icmp .gt 7, 3) := by decide +kernel
theorem dX7_isLetter_12 : decode cX7_isLetter 12 = .ok (.iconst 1, 1) := by decide +kernel
theorem dX7_isLetter_13 : decode cX7_isLetter 13 = .ok (.goto 4, 3) := by decide +kernel
theorem dX7_isLetter_16 : decode cX7_isLetter 16 = .ok (.iconst 0, 1) := by decide +kernel
theorem dX7_isLetter_17 : decode cX7_isLetter 17 = .ok (.ireturn, 1) := by decide +kernel
theorem dX7_isFigure_0 : decode cX7_isFigure 0 = .ok (.iload_n 0, 1) := by decide +kernel
theorem dX7_isFigure_1 : decode cX7_isFigure 1 = .ok (.bipush 48, 2) := by decide +kernel
theorem dX7_isFigure_3 : decode cX7_isFigure 3 = .ok (.if_icmp .lt 13, 3) := by decide +kernel
theorem dX7_isFigure_6 : decode cX7_isFigure 6 = .ok (.iload_n 0, 1) := by decide +kernel
theorem dX7_isFigure_7 : decode cX7_isFigure 7 = .ok (.bipush 57, 2) := by decide +kernel
theorem dX7_isFigure_9 : decode cX7_isFigure 9 = .ok (.if_icmp .gt 7, 3) := by decide +kernel
theorem dX7_isFigure_12 : decode cX7_isFigure 12 = .ok (.iconst 1, 1) := by decide +kernel
theorem dX7_isFigure_13 : decode cX7_isFigure 13 = .ok (.goto 4, 3) := by decide +kernel
theorem dX7_isFigure_16 : decode cX7_isFigure 16 = .ok (.iconst 0, 1) := by decide +kernel
theorem dX7_isFigure_17 : decode cX7_isFigure 17 = .ok (.ireturn, 1) := by decide +kernel
theorem dX8_init_0 : decode cX8_init 0 = .ok (.aload_n 0, 1) := by decide +kernel
theorem dX8_init_1 : decode cX8_init 1 = .ok (.invokespecial 3, 3) := by decide +kernel
theorem dX8_init_4 : decode cX8_init 4 = .ok (.aload_n 0, 1) := by decide +kernel
theorem dX8_init_5 : decode cX8_init 5 = .ok (.new 9, 3) := by decide +kernel
theorem dX8_init_8 : decode cX8_init 8 = .ok (.dup, 1) := by decide +kernel
theorem dX8_init_9 : decode cX8_init 9 = .ok (.invokespecial 11, 3) := by decide +kernel
theorem dX8_init_12 : decode cX8_init 12 = .ok (.putfield 12, 3) := by decide +kernel
theorem dX8_init_15 : decode cX8_init 15 = .ok (.aload_n 0, 1) := by decide +kernel
theorem dX8_init_16 : decode cX8_init 16 = .ok (.aload_n 0, 1) := by decide +kernel
theorem dX8_init_17 : decode cX8_init 17 = .ok (.getfield 12, 3) := by decide +kernel
theorem dX8_init_20 : decode cX8_init 20 = .ok (.getfield 18, 3) := by decide +kernel
theorem dX8_init_23 : decode cX8_init 23 = .ok (.putfield 22, 3) := by decide +kernel
theorem dX8_init_26 : decode cX8_init 26 = .ok (.aload_n 0, 1) := by decide +kernel
theorem dX8_init_27 : decode cX8_init 27 = .ok (.new 23, 3) := by decide +kernel
theorem dX8_init_30 : decode cX8_init 30 = .ok (.dup, 1) := by decide +kernel
theorem dX8_init_31 : decode cX8_init 31 = .ok (.invokespecial 25, 3) := by decide +kernel
theorem dX8_init_34 : decode cX8_init 34 = .ok (.putfield 26, 3) := by decide +kernel
theorem dX8_init_37 : decode cX8_init 37 = .ok (.aload_n 0, 1) := by decide +kernel
theorem dX8_init_38 : decode cX8_init 38 = .ok (.iconst 4, 1) := by decide +kernel
theorem dX8_init_39 : decode cX8_init 39 = .ok (.iconst 4, 1) := by decide +kernel
theorem dX8_init_40 : decode cX8_init 40 = .ok (.multianewarray 30 2, 4) := by decide +kernel
theorem dX8_init_44 : decode cX8_init 44 = .ok (.putfield 32, 3) := by decide +kernel
theorem dX8_init_47 : decode cX8_init 47 = .ok (.aload_n 0, 1) := by decide +kernel
theorem dX8_init_48 : decode cX8_init 48 = .ok (.bipush 16, 2) := by decide +kernel
theorem dX8_init_50 : decode cX8_init 50 = .ok (.anewarray 35, 3) := by decide +kernel
theorem dX8_init_53 : decode cX8_init 53 = .ok (.putfield 37, 3) := by decide +kernel
theorem dX8_init_56 : decode cX8_init 56 = .ok (.aload_n 0, 1) := by decide +kernel
theorem dX8_init_57 : decode cX8_init 57 = .ok (.new 35, 3) := by decide +kernel
theorem dX8_init_60 : decode cX8_init 60 = .ok (.dup, 1) := by decide +kernel
theorem dX8_init_61 : decode cX8_init 61 = .ok (.bipush 32, 2) := by decide +kernel
theorem dX8_init_63 : decode cX8_init 63 = .ok (.invokespecial 41, 3) := by decide +kernel
theorem dX8_init_66 : decode cX8_init 66 = .ok (.putfield 44, 3) := by decide +kernel
theorem dX8_init_69 : decode cX8_init 69 = .ok (.aload_n 0, 1) := by decide +kernel
theorem dX8_init_70 : decode cX8_init 70 = .ok (.new 35, 3) := by decide +kernel
theorem dX8_init_73 : decode cX8_init 73 = .ok (.dup, 1) := by decide +kernel
theorem dX8_init_74 : decode cX8_init 74 = .ok (.bipush 32, 2) := by decide +kernel
theorem dX8_init_76 : decode cX8_init 76 = .ok (.invokespecial 41, 3) := by decide +kernel
theorem dX8_init_79 : decode cX8_init 79 = .ok (.putfield 48, 3) := by decide +kernel
theorem dX8_init_82 : decode cX8_init 82 = .ok (.aload_n 0, 1) := by decide +kernel
theorem dX8_init_83 : decode cX8_init 83 = .ok (.new 35, 3) := by decide +kernel
theorem dX8_init_86 : decode cX8_init 86 = .ok (.dup, 1) := by decide +kernel
theorem dX8_init_87 : decode cX8_init 87 = .ok (.bipush 32, 2) := by decide +kernel
theorem dX8_init_89 : decode cX8_init 89 = .ok (.invokespecial 41, 3) := by decide +kernel
theorem dX8_init_92 : decode cX8_init 92 = .ok (.putfield 51, 3) := by decide +kernel
theorem dX8_init_95 : decode cX8_init 95 = .ok (.aload_n 0, 1) := by decide +kernel
theorem dX8_init_96 : decode cX8_init 96 = .ok (.iconst 4, 1) := by decide +kernel
theorem dX8_init_97 : decode cX8_init 97 = .ok (.anewarray 35, 3) := by decide +kernel
theorem dX8_init_100 : decode cX8_init 100 = .ok (.putfield 54, 3) := by decide +kernel
theorem dX8_init_103 : decode cX8_init 103 = .ok (.aload_n 0, 1) := by decide +kernel
theorem dX8_init_104 : decode cX8_init 104 = .ok (.new 35, 3) := by decide +kernel
theorem dX8_init_107 : decode cX8_init 107 = .ok (.dup, 1) := by decide +kernel
theorem dX8_init_108 : decode cX8_init 108 = .ok (.bipush 32, 2) := by decide +kernel
theorem dX8_init_110 : decode cX8_init 110 = .ok (.invokespecial 41, 3) := by decide +kernel
theorem dX8_init_113 : decode cX8_init 113 = .ok (.putfield 57, 3) := by decide +kernel
theorem dX8_init_116 : decode cX8_init 116 = .ok (.iconst 0, 1) := by decide +kernel
theorem dX8_init_117 : decode cX8_init 117 = .ok (.istore_n 1, 1) := by decide +kernel
theorem dX8_init_118 : decode cX8_init 118 = .ok (.iload_n 1, 1) := by decide +kernel
theorem dX8_init_119 : decode cX8_init 119 = .ok (.aload_n 0, 1) := by decide +kernel
theorem dX8_init_120 : decode cX8_init 120 = .ok (.getfield 37, 3) := by decide +kernel
theorem dX8_init_123 : decode cX8_init 123 = .ok (.arraylength, 1) := by decide +kernel
theorem dX8_init_124 : decode cX8_init 124 = .ok (.if_icmp .ge 24, 3) := by decide +kernel
theorem dX8_init_127 : decode cX8_init 127 = .ok (.aload_n 0, 1) := by decide +kernel
theorem dX8_init_128 : decode cX8_init 128 = .ok (.getfield 37, 3) := by decide +kernel
theorem dX8_init_131 : decode cX8_init 131 = .ok (.iload_n 1, 1) := by decide +kernel
theorem dX8_init_132 : decode cX8_init 132 = .ok (.new 35, 3) := by decide +kernel
theorem dX8_init_135 : decode cX8_init 135 = .ok (.dup, 1) := by decide +kernel
theorem dX8_init_136 : decode cX8_init 136 = .ok (.bipush 32, 2) := by decide +kernel
theorem dX8_init_138 : decode cX8_init 138 = .ok (.invokespecial 41, 3) := by decide +kernel
theorem dX8_init_141 : decode cX8_init 141 = .ok (.aastore, 1) := by decide +kernel
theorem dX8_init_142 : decode cX8_init 142 = .ok (.iinc 1 1, 3) := by decide +kernel
theorem dX8_init_145 : decode cX8_init 145 = .ok (.goto (-27), 3) := by decide +kernel
theorem dX8_init_148 : decode cX8_init 148 = .ok (.iconst 0, 1) := by decide +kernel
theorem dX8_init_149 : decode cX8_init 149 = .ok (.istore_n 1, 1) := by decide +kernel
theorem dX8_init_150 : decode cX8_init 150 = .ok (.iload_n 1, 1) := by decide +kernel
theorem dX8_init_151 : decode cX8_init 151 = .ok (.iconst 4, 1) := by decide +kernel
theorem dX8_init_152 : decode cX8_init 152 = .ok (.if_icmp .ge 24, 3) := by decide +kernel
theorem dX8_init_155 : decode cX8_init 155 = .ok (.aload_n 0, 1) := by decide +kernel
theorem dX8_init_156 : decode cX8_init 156 = .ok (.getfield 54, 3) := by decide +kernel
theorem dX8_init_159 : decode cX8_init 159 = .ok (.iload_n 1, 1) := by decide +kernel
theorem dX8_init_160 : decode cX8_init 160 = .ok (.new 35, 3) := by decide +kernel
theorem dX8_init_163 : decode cX8_init 163 = .ok (.dup, 1) := by decide +kernel
theorem dX8_init_164 : decode cX8_init 164 = .ok (.bipush 32, 2) := by decide +kernel
theorem dX8_init_166 : decode cX8_init 166 = .ok (.invokespecial 41, 3) := by decide +kernel
theorem dX8_init_169 : decode cX8_init 169 = .ok (.aastore, 1) := by decide +kernel
theorem dX8_init_170 : decode cX8_init 170 = .ok (.iinc 1 1, 3) := by decide +kernel
theorem dX8_init_173 : decode cX8_init 173 = .ok (.goto (-23), 3) := by decide +kernel
theorem dX8_init_176 : decode cX8_init 176 = .ok (.return_, 1) := by decide +kernel
theorem dX8_livedBy_0 : decode cX8_livedBy 0 = .ok (.aload_n 0, 1) := by decide +kernel
theorem dX8_livedBy_1 : decode cX8_livedBy 1 = .ok (.getfield 37, 3) := by decide +kernel
theorem dX8_livedBy_4 : decode cX8_livedBy 4 = .ok (.iload_n 1, 1) := by decide +kernel
theorem dX8_livedBy_5 : decode cX8_livedBy 5 = .ok (.iconst 4, 1) := by decide +kernel
theorem dX8_livedBy_6 : decode cX8_livedBy 6 = .ok (.imul, 1) := by decide +kernel
theorem dX8_livedBy_7 : decode cX8_livedBy 7 = .ok (.iload_n 2, 1) := by decide +kernel
theorem dX8_livedBy_8 : decode cX8_livedBy 8 = .ok (.iadd, 1) := by decide +kernel
theorem dX8_livedBy_9 : decode cX8_livedBy 9 = .ok (.aaload, 1) := by decide +kernel
theorem dX8_livedBy_10 : decode cX8_livedBy 10 = .ok (.areturn, 1) := by decide +kernel
theorem dX8_refresh_0 : decode cX8_refresh 0 = .ok (.aload_n 0, 1) := by decide +kernel
theorem dX8_refresh_1 : decode cX8_refresh 1 = .ok (.getfield 60, 3) := by decide +kernel
theorem dX8_refresh_4 : decode cX8_refresh 4 = .ok (.ifCond .eq 4, 3) := by decide +kernel
theorem dX8_refresh_7 : decode cX8_refresh 7 = .ok (.return_, 1) := by decide +kernel
theorem dX8_refresh_8 : decode cX8_refresh 8 = .ok (.aload_n 0, 1) := by decide +kernel
theorem dX8_refresh_9 : decode cX8_refresh 9 = .ok (.iconst 1, 1) := by decide +kernel
theorem dX8_refresh_10 : decode cX8_refresh 10 = .ok (.putfield 60, 3) := by decide +kernel
theorem dX8_refresh_13 : decode cX8_refresh 13 = .ok (.aload_n 0, 1) := by decide +kernel
theorem dX8_refresh_14 : decode cX8_refresh 14 = .ok (.invokevirtual 64, 3) := by decide +kernel
theorem dX8_refresh_17 : decode cX8_refresh 17 = .ok (.aload_n 0, 1) := by decide +kernel
theorem dX8_refresh_18 : decode cX8_refresh 18 = .ok (.invokevirtual 67, 3) := by decide +kernel
theorem dX8_refresh_21 : decode cX8_refresh 21 = .ok (.aload_n 0, 1) := by decide +kernel
theorem dX8_refresh_22 : decode cX8_refresh 22 = .ok (.getfield 26, 3) := by decide +kernel
theorem dX8_refresh_25 : decode cX8_refresh 25 = .ok (.aload_n 0, 1) := by decide +kernel
theorem dX8_refresh_26 : decode cX8_refresh 26 = .ok (.getfield 22, 3) := by decide +kernel
theorem dX8_refresh_29 : decode cX8_refresh 29 = .ok (.invokevirtual 70, 3) := by decide +kernel
theorem dX8_refresh_32 : decode cX8_refresh 32 = .ok (.aload_n 0, 1) := by decide +kernel
theorem dX8_refresh_33 : decode cX8_refresh 33 = .ok (.aload_n 0, 1) := by decide +kernel
theorem dX8_refresh_34 : decode cX8_refresh 34 = .ok (.getfield 22, 3) := by decide +kernel
theorem dX8_refresh_37 : decode cX8_refresh 37 = .ok (.getfield 74, 3) := by decide +kernel
theorem dX8_refresh_40 : decode cX8_refresh 40 = .ok (.iconst 0, 1) := by decide +kernel
theorem dX8_refresh_41 : decode cX8_refresh 41 = .ok (.iaload, 1) := by decide +kernel
theorem dX8_refresh_42 : decode cX8_refresh 42 = .ok (.bipush 9, 2) := by decide +kernel
theorem dX8_refresh_44 : decode cX8_refresh 44 = .ok (.if_icmp .ge 13, 3) := by decide +kernel
theorem dX8_refresh_47 : decode cX8_refresh 47 = .ok (.aload_n 0, 1) := by decide +kernel
theorem dX8_refresh_48 : decode cX8_refresh 48 = .ok (.getfield 12, 3) := by decide +kernel
theorem dX8_refresh_51 : decode cX8_refresh 51 = .ok (.invokevirtual 80, 3) := by decide +kernel
theorem dX8_refresh_54 : decode cX8_refresh 54 = .ok (.goto 4, 3) := by decide +kernel
theorem dX8_refresh_57 : decode cX8_refresh 57 = .ok (.iconst 0, 1) := by decide +kernel
theorem dX8_refresh_58 : decode cX8_refresh 58 = .ok (.putfield 84, 3) := by decide +kernel
theorem dX8_refresh_61 : decode cX8_refresh 61 = .ok (.iconst 1, 1) := by decide +kernel
theorem dX8_refresh_62 : decode cX8_refresh 62 = .ok (.iconst 2, 1) := by decide +kernel
theorem dX8_refresh_63 : decode cX8_refresh 63 = .ok (.aload_n 0, 1) := by decide +kernel
theorem dX8_refresh_64 : decode cX8_refresh 64 = .ok (.getfield 22, 3) := by decide +kernel
theorem dX8_refresh_67 : decode cX8_refresh 67 = .ok (.getfield 87, 3) := by decide +kernel
theorem dX8_refresh_70 : decode cX8_refresh 70 = .ok (.imul, 1) := by decide +kernel
theorem dX8_refresh_71 : decode cX8_refresh 71 = .ok (.ishl, 1) := by decide +kernel
theorem dX8_refresh_72 : decode cX8_refresh 72 = .ok (.istore_n 1, 1) := by decide +kernel
theorem dX8_refresh_73 : decode cX8_refresh 73 = .ok (.iconst 0, 1) := by decide +kernel
theorem dX8_refresh_74 : decode cX8_refresh 74 = .ok (.istore_n 2, 1) := by decide +kernel
theorem dX8_refresh_75 : decode cX8_refresh 75 = .ok (.iload_n 2, 1) := by decide +kernel
theorem dX8_refresh_76 : decode cX8_refresh 76 = .ok (.iload_n 1, 1) := by decide +kernel
theorem dX8_refresh_77 : decode cX8_refresh 77 = .ok (.if_icmp .ge 28, 3) := by decide +kernel
theorem dX8_refresh_80 : decode cX8_refresh 80 = .ok (.aload_n 0, 1) := by decide +kernel
theorem dX8_refresh_81 : decode cX8_refresh 81 = .ok (.getfield 12, 3) := by decide +kernel
theorem dX8_refresh_84 : decode cX8_refresh 84 = .ok (.iload_n 2, 1) := by decide +kernel
theorem dX8_refresh_85 : decode cX8_refresh 85 = .ok (.invokevirtual 90, 3) := by decide +kernel
theorem dX8_refresh_88 : decode cX8_refresh 88 = .ok (.ifCond .eq 11, 3) := by decide +kernel
theorem dX8_refresh_91 : decode cX8_refresh 91 = .ok (.aload_n 0, 1) := by decide +kernel
theorem dX8_refresh_92 : decode cX8_refresh 92 = .ok (.invokevirtual 94, 3) := by decide +kernel
theorem dX8_refresh_95 : decode cX8_refresh 95 = .ok (.aload_n 0, 1) := by decide +kernel
theorem dX8_refresh_96 : decode cX8_refresh 96 = .ok (.invokevirtual 97, 3) := by decide +kernel
theorem dX8_refresh_99 : decode cX8_refresh 99 = .ok (.iinc 2 1, 3) := by decide +kernel
theorem dX8_refresh_102 : decode cX8_refresh 102 = .ok (.goto (-27), 3) := by decide +kernel
theorem dX8_refresh_105 : decode cX8_refresh 105 = .ok (.return_, 1) := by decide +kernel
theorem dX8_forgetSums_0 : decode cX8_forgetSums 0 = .ok (.aload_n 0, 1) := by decide +kernel
theorem dX8_forgetSums_1 : decode cX8_forgetSums 1 = .ok (.getfield 57, 3) := by decide +kernel
theorem dX8_forgetSums_4 : decode cX8_forgetSums 4 = .ok (.lconst 0, 1) := by decide +kernel
theorem dX8_forgetSums_5 : decode cX8_forgetSums 5 = .ok (.invokevirtual 100, 3) := by decide +kernel
theorem dX8_forgetSums_8 : decode cX8_forgetSums 8 = .ok (.iconst 0, 1) := by decide +kernel
theorem dX8_forgetSums_9 : decode cX8_forgetSums 9 = .ok (.istore_n 1, 1) := by decide +kernel
theorem dX8_forgetSums_10 : decode cX8_forgetSums 10 = .ok (.iload_n 1, 1) := by decide +kernel
theorem dX8_forgetSums_11 : decode cX8_forgetSums 11 = .ok (.aload_n 0, 1) := by decide +kernel
theorem dX8_forgetSums_12 : decode cX8_forgetSums 12 = .ok (.getfield 37, 3) := by decide +kernel
theorem dX8_forgetSums_15 : decode cX8_forgetSums 15 = .ok (.arraylength, 1) := by decide +kernel
theorem dX8_forgetSums_16 : decode cX8_forgetSums 16 = .ok (.if_icmp .ge 19, 3) := by decide +kernel
theorem dX8_forgetSums_19 : decode cX8_forgetSums 19 = .ok (.aload_n 0, 1) := by decide +kernel
theorem dX8_forgetSums_20 : decode cX8_forgetSums 20 = .ok (.getfield 37, 3) := by decide +kernel
theorem dX8_forgetSums_23 : decode cX8_forgetSums 23 = .ok (.iload_n 1, 1) := by decide +kernel
theorem dX8_forgetSums_24 : decode cX8_forgetSums 24 = .ok (.aaload, 1) := by decide +kernel
theorem dX8_forgetSums_25 : decode cX8_forgetSums 25 = .ok (.lconst 0, 1) := by decide +kernel
theorem dX8_forgetSums_26 : decode cX8_forgetSums 26 = .ok (.invokevirtual 100, 3) := by decide +kernel
theorem dX8_forgetSums_29 : decode cX8_forgetSums 29 = .ok (.iinc 1 1, 3) := by decide +kernel
theorem dX8_forgetSums_32 : decode cX8_forgetSums 32 = .ok (.goto (-22), 3) := by decide +kernel
theorem dX8_forgetSums_35 : decode cX8_forgetSums 35 = .ok (.iconst 0, 1) := by decide +kernel
theorem dX8_forgetSums_36 : decode cX8_forgetSums 36 = .ok (.istore_n 1, 1) := by decide +kernel
theorem dX8_forgetSums_37 : decode cX8_forgetSums 37 = .ok (.iload_n 1, 1) := by decide +kernel
theorem dX8_forgetSums_38 : decode cX8_forgetSums 38 = .ok (.iconst 4, 1) := by decide +kernel
theorem dX8_forgetSums_39 : decode cX8_forgetSums 39 = .ok (.if_icmp .ge 19, 3) := by decide +kernel
theorem dX8_forgetSums_42 : decode cX8_forgetSums 42 = .ok (.aload_n 0, 1) := by decide +kernel
theorem dX8_forgetSums_43 : decode cX8_forgetSums 43 = .ok (.getfield 54, 3) := by decide +kernel
theorem dX8_forgetSums_46 : decode cX8_forgetSums 46 = .ok (.iload_n 1, 1) := by decide +kernel
theorem dX8_forgetSums_47 : decode cX8_forgetSums 47 = .ok (.aaload, 1) := by decide +kernel
theorem dX8_forgetSums_48 : decode cX8_forgetSums 48 = .ok (.lconst 0, 1) := by decide +kernel
theorem dX8_forgetSums_49 : decode cX8_forgetSums 49 = .ok (.invokevirtual 100, 3) := by decide +kernel
theorem dX8_forgetSums_52 : decode cX8_forgetSums 52 = .ok (.iinc 1 1, 3) := by decide +kernel
theorem dX8_forgetSums_55 : decode cX8_forgetSums 55 = .ok (.goto (-18), 3) := by decide +kernel
theorem dX8_forgetSums_58 : decode cX8_forgetSums 58 = .ok (.return_, 1) := by decide +kernel
theorem dX8_shareOut_0 : decode cX8_shareOut 0 = .ok (.iconst 0, 1) := by decide +kernel
theorem dX8_shareOut_1 : decode cX8_shareOut 1 = .ok (.istore_n 1, 1) := by decide +kernel
theorem dX8_shareOut_2 : decode cX8_shareOut 2 = .ok (.iload_n 1, 1) := by decide +kernel
theorem dX8_shareOut_3 : decode cX8_shareOut 3 = .ok (.aload_n 0, 1) := by decide +kernel
theorem dX8_shareOut_4 : decode cX8_shareOut 4 = .ok (.getfield 22, 3) := by decide +kernel
theorem dX8_shareOut_7 : decode cX8_shareOut 7 = .ok (.getfield 87, 3) := by decide +kernel
theorem dX8_shareOut_10 : decode cX8_shareOut 10 = .ok (.if_icmp .ge 78, 3) := by decide +kernel
theorem dX8_shareOut_13 : decode cX8_shareOut 13 = .ok (.iconst 0, 1) := by decide +kernel
theorem dX8_shareOut_14 : decode cX8_shareOut 14 = .ok (.istore_n 2, 1) := by decide +kernel
theorem dX8_shareOut_15 : decode cX8_shareOut 15 = .ok (.iload_n 2, 1) := by decide +kernel
theorem dX8_shareOut_16 : decode cX8_shareOut 16 = .ok (.iconst 4, 1) := by decide +kernel
theorem dX8_shareOut_17 : decode cX8_shareOut 17 = .ok (.if_icmp .ge 65, 3) := by decide +kernel
theorem dX8_shareOut_20 : decode cX8_shareOut 20 = .ok (.aload_n 0, 1) := by decide +kernel
theorem dX8_shareOut_21 : decode cX8_shareOut 21 = .ok (.getfield 22, 3) := by decide +kernel
theorem dX8_shareOut_24 : decode cX8_shareOut 24 = .ok (.getfield 104, 3) := by decide +kernel
theorem dX8_shareOut_27 : decode cX8_shareOut 27 = .ok (.iload_n 2, 1) := by decide +kernel
theorem dX8_shareOut_28 : decode cX8_shareOut 28 = .ok (.iaload, 1) := by decide +kernel
theorem dX8_shareOut_29 : decode cX8_shareOut 29 = .ok (.aload_n 0, 1) := by decide +kernel
theorem dX8_shareOut_30 : decode cX8_shareOut 30 = .ok (.iload_n 1, 1) := by decide +kernel
theorem dX8_shareOut_31 : decode cX8_shareOut 31 = .ok (.aload_n 0, 1) := by decide +kernel
theorem dX8_shareOut_32 : decode cX8_shareOut 32 = .ok (.getfield 12, 3) := by decide +kernel
theorem dX8_shareOut_35 : decode cX8_shareOut 35 = .ok (.getfield 107, 3) := by decide +kernel
theorem dX8_shareOut_38 : decode cX8_shareOut 38 = .ok (.iload_n 2, 1) := by decide +kernel
theorem dX8_shareOut_39 : decode cX8_shareOut 39 = .ok (.aaload, 1) := by decide +kernel
theorem dX8_shareOut_40 : decode cX8_shareOut 40 = .ok (.invokevirtual 111, 3) := by decide +kernel
theorem dX8_shareOut_43 : decode cX8_shareOut 43 = .ok (.imul, 1) := by decide +kernel
theorem dX8_shareOut_44 : decode cX8_shareOut 44 = .ok (.istore_n 3, 1) := by decide +kernel
theorem dX8_shareOut_45 : decode cX8_shareOut 45 = .ok (.aload_n 0, 1) := by decide +kernel
theorem dX8_shareOut_46 : decode cX8_shareOut 46 = .ok (.getfield 32, 3) := by decide +kernel
theorem dX8_shareOut_49 : decode cX8_shareOut 49 = .ok (.iload_n 1, 1) := by decide +kernel
theorem dX8_shareOut_50 : decode cX8_shareOut 50 = .ok (.aaload, 1) := by decide +kernel
theorem dX8_shareOut_51 : decode cX8_shareOut 51 = .ok (.iload_n 2, 1) := by decide +kernel
theorem dX8_shareOut_52 : decode cX8_shareOut 52 = .ok (.iload_n 1, 1) := by decide +kernel
theorem dX8_shareOut_53 : decode cX8_shareOut 53 = .ok (.ifCond .ne 21, 3) := by decide +kernel
theorem dX8_shareOut_56 : decode cX8_shareOut 56 = .ok (.iload_n 3, 1) := by decide +kernel
theorem dX8_shareOut_57 : decode cX8_shareOut 57 = .ok (.aload_n 0, 1) := by decide +kernel
theorem dX8_shareOut_58 : decode cX8_shareOut 58 = .ok (.aload_n 0, 1) := by decide +kernel
theorem dX8_shareOut_59 : decode cX8_shareOut 59 = .ok (.getfield 12, 3) := by decide +kernel
theorem dX8_shareOut_62 : decode cX8_shareOut 62 = .ok (.getfield 107, 3) := by decide +kernel
theorem dX8_shareOut_65 : decode cX8_shareOut 65 = .ok (.iload_n 2, 1) := by decide +kernel
theorem dX8_shareOut_66 : decode cX8_shareOut 66 = .ok (.aaload, 1) := by decide +kernel
theorem dX8_shareOut_67 : decode cX8_shareOut 67 = .ok (.invokevirtual 115, 3) := by decide +kernel
theorem dX8_shareOut_70 : decode cX8_shareOut 70 = .ok (.imul, 1) := by decide +kernel
theorem dX8_shareOut_71 : decode cX8_shareOut 71 = .ok (.goto 4, 3) := by decide +kernel
theorem dX8_shareOut_74 : decode cX8_shareOut 74 = .ok (.iload_n 3, 1) := by decide +kernel
theorem dX8_shareOut_75 : decode cX8_shareOut 75 = .ok (.iastore, 1) := by decide +kernel
theorem dX8_shareOut_76 : decode cX8_shareOut 76 = .ok (.iinc 2 1, 3) := by decide +kernel
theorem dX8_shareOut_79 : decode cX8_shareOut 79 = .ok (.goto (-64), 3) := by decide +kernel
theorem dX8_shareOut_82 : decode cX8_shareOut 82 = .ok (.iinc 1 1, 3) := by decide +kernel
theorem dX8_shareOut_85 : decode cX8_shareOut 85 = .ok (.goto (-83), 3) := by decide +kernel
theorem dX8_shareOut_88 : decode cX8_shareOut 88 = .ok (.return_, 1) := by decide +kernel
theorem dX8_tellersShare_0 : decode cX8_tellersShare 0 = .ok (.iconst 1, 1) := by decide +kernel
theorem dX8_tellersShare_1 : decode cX8_tellersShare 1 = .ok (.istore_n 3, 1) := by decide +kernel
theorem dX8_tellersShare_2 : decode cX8_tellersShare 2 = .ok (.iconst 0, 1) := by decide +kernel
theorem dX8_tellersShare_3 : decode cX8_tellersShare 3 = .ok (.istore 4, 2) := by decide +kernel
theorem dX8_tellersShare_5 : decode cX8_tellersShare 5 = .ok (.iload 4, 2) := by decide +kernel
theorem dX8_tellersShare_7 : decode cX8_tellersShare 7 = .ok (.aload_n 0, 1) := by decide +kernel
theorem dX8_tellersShare_8 : decode cX8_tellersShare 8 = .ok (.getfield 22, 3) := by decide +kernel
theorem dX8_tellersShare_11 : decode cX8_tellersShare 11 = .ok (.getfield 119, 3) := by decide +kernel
theorem dX8_tellersShare_14 : decode cX8_tellersShare 14 = .ok (.if_icmp .ge 80, 3) := by decide +kernel
theorem dX8_tellersShare_17 : decode cX8_tellersShare 17 = .ok (.aload_n 0, 1) := by decide +kernel
theorem dX8_tellersShare_18 : decode cX8_tellersShare 18 = .ok (.getfield 22, 3) := by decide +kernel
theorem dX8_tellersShare_21 : decode cX8_tellersShare 21 = .ok (.getfield 122, 3) := by decide +kernel
theorem dX8_tellersShare_24 : decode cX8_tellersShare 24 = .ok (.iload 4, 2) := by decide +kernel
theorem dX8_tellersShare_26 : decode cX8_tellersShare 26 = .ok (.aaload, 1) := by decide +kernel
theorem dX8_tellersShare_27 : decode cX8_tellersShare 27 = .ok (.astore 5, 2) := by decide +kernel
theorem dX8_tellersShare_29 : decode cX8_tellersShare 29 = .ok (.aload 5, 2) := by decide +kernel
theorem dX8_tellersShare_31 : decode cX8_tellersShare 31 = .ok (.iconst 1, 1) := by decide +kernel
theorem dX8_tellersShare_32 : decode cX8_tellersShare 32 = .ok (.iaload, 1) := by decide +kernel
theorem dX8_tellersShare_33 : decode cX8_tellersShare 33 = .ok (.iload_n 1, 1) := by decide +kernel
theorem dX8_tellersShare_34 : decode cX8_tellersShare 34 = .ok (.if_icmp .ne 54, 3) := by decide +kernel
theorem dX8_tellersShare_37 : decode cX8_tellersShare 37 = .ok (.aload_n 0, 1) := by decide +kernel
theorem dX8_tellersShare_38 : decode cX8_tellersShare 38 = .ok (.getfield 22, 3) := by decide +kernel
theorem dX8_tellersShare_41 : decode cX8_tellersShare 41 = .ok (.iload 4, 2) := by decide +kernel
theorem dX8_tellersShare_43 : decode cX8_tellersShare 43 = .ok (.invokevirtual 125, 3) := by decide +kernel
theorem dX8_tellersShare_46 : decode cX8_tellersShare 46 = .ok (.ifCond .eq 42, 3) := by decide +kernel
theorem dX8_tellersShare_49 : decode cX8_tellersShare 49 = .ok (.aload 5, 2) := by decide +kernel
theorem dX8_tellersShare_51 : decode cX8_tellersShare 51 = .ok (.iconst 2, 1) := by decide +kernel
theorem dX8_tellersShare_52 : decode cX8_tellersShare 52 = .ok (.iaload, 1) := by decide +kernel
theorem dX8_tellersShare_53 : decode cX8_tellersShare 53 = .ok (.istore 6, 2) := by decide +kernel
theorem dX8_tellersShare_55 : decode cX8_tellersShare 55 = .ok (.aload_n 2, 1) := by decide +kernel
theorem dX8_tellersShare_56 : decode cX8_tellersShare 56 = .ok (.getfield 128, 3) := by decide +kernel
theorem dX8_tellersShare_59 : decode cX8_tellersShare 59 = .ok (.iload 6, 2) := by decide +kernel
theorem dX8_tellersShare_61 : decode cX8_tellersShare 61 = .ok (.iaload, 1) := by decide +kernel
theorem dX8_tellersShare_62 : decode cX8_tellersShare 62 = .ok (.aload 5, 2) := by decide +kernel
theorem dX8_tellersShare_64 : decode cX8_tellersShare 64 = .ok (.iconst 3, 1) := by decide +kernel
theorem dX8_tellersShare_65 : decode cX8_tellersShare 65 = .ok (.iaload, 1) := by decide +kernel
theorem dX8_tellersShare_66 : decode cX8_tellersShare 66 = .ok (.if_icmp .ne 7, 3) := by decide +kernel
theorem dX8_tellersShare_69 : decode cX8_tellersShare 69 = .ok (.iconst 1, 1) := by decide +kernel
theorem dX8_tellersShare_70 : decode cX8_tellersShare 70 = .ok (.goto 4, 3) := by decide +kernel
theorem dX8_tellersShare_73 : decode cX8_tellersShare 73 = .ok (.iconst 0, 1) := by decide +kernel
theorem dX8_tellersShare_74 : decode cX8_tellersShare 74 = .ok (.istore 7, 2) := by decide +kernel
theorem dX8_tellersShare_76 : decode cX8_tellersShare 76 = .ok (.iload_n 3, 1) := by decide +kernel
theorem dX8_tellersShare_77 : decode cX8_tellersShare 77 = .ok (.iload 7, 2) := by decide +kernel
theorem dX8_tellersShare_79 : decode cX8_tellersShare 79 = .ok (.aload 5, 2) := by decide +kernel
theorem dX8_tellersShare_81 : decode cX8_tellersShare 81 = .ok (.iconst 4, 1) := by decide +kernel
theorem dX8_tellersShare_82 : decode cX8_tellersShare 82 = .ok (.iaload, 1) := by decide +kernel
theorem dX8_tellersShare_83 : decode cX8_tellersShare 83 = .ok (.invokestatic 133, 3) := by decide +kernel
theorem dX8_tellersShare_86 : decode cX8_tellersShare 86 = .ok (.imul, 1) := by decide +kernel
theorem dX8_tellersShare_87 : decode cX8_tellersShare 87 = .ok (.istore_n 3, 1) := by decide +kernel
theorem dX8_tellersShare_88 : decode cX8_tellersShare 88 = .ok (.iinc 4 1, 3) := by decide +kernel
theorem dX8_tellersShare_91 : decode cX8_tellersShare 91 = .ok (.goto (-86), 3) := by decide +kernel
theorem dX8_tellersShare_94 : decode cX8_tellersShare 94 = .ok (.iload_n 3, 1) := by decide +kernel
theorem dX8_tellersShare_95 : decode cX8_tellersShare 95 = .ok (.ireturn, 1) := by decide +kernel
theorem dX8_postShare_0 : decode cX8_postShare 0 = .ok (.aload_n 0, 1) := by decide +kernel
theorem dX8_postShare_1 : decode cX8_postShare 1 = .ok (.getfield 22, 3) := by decide +kernel
theorem dX8_postShare_4 : decode cX8_postShare 4 = .ok (.getfield 137, 3) := by decide +kernel
theorem dX8_postShare_7 : decode cX8_postShare 7 = .ok (.iconst 0, 1) := by decide +kernel
theorem dX8_postShare_8 : decode cX8_postShare 8 = .ok (.iaload, 1) := by decide +kernel
theorem dX8_postShare_9 : decode cX8_postShare 9 = .ok (.ifCond .ne 5, 3) := by decide +kernel
theorem dX8_postShare_12 : decode cX8_postShare 12 = .ok (.iconst 1, 1) := by decide +kernel
theorem dX8_postShare_13 : decode cX8_postShare 13 = .ok (.ireturn, 1) := by decide +kernel
theorem dX8_postShare_14 : decode cX8_postShare 14 = .ok (.aload_n 1, 1) := by decide +kernel
theorem dX8_postShare_15 : decode cX8_postShare 15 = .ok (.getfield 140, 3) := by decide +kernel
theorem dX8_postShare_18 : decode cX8_postShare 18 = .ok (.aload_n 0, 1) := by decide +kernel
theorem dX8_postShare_19 : decode cX8_postShare 19 = .ok (.getfield 22, 3) := by decide +kernel
theorem dX8_postShare_22 : decode cX8_postShare 22 = .ok (.getfield 137, 3) := by decide +kernel
theorem dX8_postShare_25 : decode cX8_postShare 25 = .ok (.iconst 1, 1) := by decide +kernel
theorem dX8_postShare_26 : decode cX8_postShare 26 = .ok (.iaload, 1) := by decide +kernel
theorem dX8_postShare_27 : decode cX8_postShare 27 = .ok (.if_icmp .ne 7, 3) := by decide +kernel
theorem dX8_postShare_30 : decode cX8_postShare 30 = .ok (.iconst 1, 1) := by decide +kernel
theorem dX8_postShare_31 : decode cX8_postShare 31 = .ok (.goto 4, 3) := by decide +kernel
theorem dX8_postShare_34 : decode cX8_postShare 34 = .ok (.iconst 0, 1) := by decide +kernel
theorem dX8_postShare_35 : decode cX8_postShare 35 = .ok (.istore_n 2, 1) := by decide +kernel
theorem dX8_postShare_36 : decode cX8_postShare 36 = .ok (.aload_n 1, 1) := by decide +kernel
theorem dX8_postShare_37 : decode cX8_postShare 37 = .ok (.getfield 143, 3) := by decide +kernel
theorem dX8_postShare_40 : decode cX8_postShare 40 = .ok (.aload_n 0, 1) := by decide +kernel
theorem dX8_postShare_41 : decode cX8_postShare 41 = .ok (.getfield 22, 3) := by decide +kernel
theorem dX8_postShare_44 : decode cX8_postShare 44 = .ok (.getfield 137, 3) := by decide +kernel
theorem dX8_postShare_47 : decode cX8_postShare 47 = .ok (.iconst 2, 1) := by decide +kernel
theorem dX8_postShare_48 : decode cX8_postShare 48 = .ok (.iaload, 1) := by decide +kernel
theorem dX8_postShare_49 : decode cX8_postShare 49 = .ok (.iconst 1, 1) := by decide +kernel
theorem dX8_postShare_50 : decode cX8_postShare 50 = .ok (.if_icmp .ne 7, 3) := by decide +kernel
theorem dX8_postShare_53 : decode cX8_postShare 53 = .ok (.iconst 1, 1) := by decide +kernel
theorem dX8_postShare_54 : decode cX8_postShare 54 = .ok (.goto 4, 3) := by decide +kernel
theorem dX8_postShare_57 : decode cX8_postShare 57 = .ok (.iconst 0, 1) := by decide +kernel
theorem dX8_postShare_58 : decode cX8_postShare 58 = .ok (.if_icmp .ne 7, 3) := by decide +kernel
theorem dX8_postShare_61 : decode cX8_postShare 61 = .ok (.iconst 1, 1) := by decide +kernel
theorem dX8_postShare_62 : decode cX8_postShare 62 = .ok (.goto 4, 3) := by decide +kernel
theorem dX8_postShare_65 : decode cX8_postShare 65 = .ok (.iconst 0, 1) := by decide +kernel
theorem dX8_postShare_66 : decode cX8_postShare 66 = .ok (.istore_n 3, 1) := by decide +kernel
theorem dX8_postShare_67 : decode cX8_postShare 67 = .ok (.iload_n 2, 1) := by decide +kernel
theorem dX8_postShare_68 : decode cX8_postShare 68 = .ok (.aload_n 0, 1) := by decide +kernel
theorem dX8_postShare_69 : decode cX8_postShare 69 = .ok (.getfield 22, 3) := by decide +kernel
theorem dX8_postShare_72 : decode cX8_postShare 72 = .ok (.getfield 74, 3) := by decide +kernel
theorem dX8_postShare_75 : decode cX8_postShare 75 = .ok (.iconst 1, 1) := by decide +kernel
theorem dX8_postShare_76 : decode cX8_postShare 76 = .ok (.iaload, 1) := by decide +kernel
theorem dX8_postShare_77 : decode cX8_postShare 77 = .ok (.invokestatic 133, 3) := by decide +kernel
theorem dX8_postShare_80 : decode cX8_postShare 80 = .ok (.iload_n 3, 1) := by decide +kernel
theorem dX8_postShare_81 : decode cX8_postShare 81 = .ok (.aload_n 0, 1) := by decide +kernel
theorem dX8_postShare_82 : decode cX8_postShare 82 = .ok (.getfield 22, 3) := by decide +kernel
theorem dX8_postShare_85 : decode cX8_postShare 85 = .ok (.getfield 74, 3) := by decide +kernel
theorem dX8_postShare_88 : decode cX8_postShare 88 = .ok (.iconst 1, 1) := by decide +kernel
theorem dX8_postShare_89 : decode cX8_postShare 89 = .ok (.iaload, 1) := by decide +kernel
theorem dX8_postShare_90 : decode cX8_postShare 90 = .ok (.invokestatic 133, 3) := by decide +kernel
theorem dX8_postShare_93 : decode cX8_postShare 93 = .ok (.imul, 1) := by decide +kernel
theorem dX8_postShare_94 : decode cX8_postShare 94 = .ok (.ireturn, 1) := by decide +kernel
theorem dX8_of10_0 : decode cX8_of10 0 = .ok (.iload_n 0, 1) := by decide +kernel
theorem dX8_of10_1 : decode cX8_of10 1 = .ok (.ifCond .eq 7, 3) := by decide +kernel
theorem dX8_of10_4 : decode cX8_of10 4 = .ok (.iload_n 1, 1) := by decide +kernel
theorem dX8_of10_5 : decode cX8_of10 5 = .ok (.goto 7, 3) := by decide +kernel
theorem dX8_of10_8 : decode cX8_of10 8 = .ok (.bipush 10, 2) := by decide +kernel
theorem dX8_of10_10 : decode cX8_of10 10 = .ok (.iload_n 1, 1) := by decide +kernel
theorem dX8_of10_11 : decode cX8_of10 11 = .ok (.isub, 1) := by decide +kernel
theorem dX8_of10_12 : decode cX8_of10 12 = .ok (.ireturn, 1) := by decide +kernel
theorem dX8_weigh_0 : decode cX8_weigh 0 = .ok (.aload_n 0, 1) := by decide +kernel
theorem dX8_weigh_1 : decode cX8_weigh 1 = .ok (.getfield 48, 3) := by decide +kernel
theorem dX8_weigh_4 : decode cX8_weigh 4 = .ok (.lconst 1, 1) := by decide +kernel
theorem dX8_weigh_5 : decode cX8_weigh 5 = .ok (.invokevirtual 100, 3) := by decide +kernel
theorem dX8_weigh_8 : decode cX8_weigh 8 = .ok (.iconst 0, 1) := by decide +kernel
theorem dX8_weigh_9 : decode cX8_weigh 9 = .ok (.istore_n 1, 1) := by decide +kernel
theorem dX8_weigh_10 : decode cX8_weigh 10 = .ok (.iload_n 1, 1) := by decide +kernel
theorem dX8_weigh_11 : decode cX8_weigh 11 = .ok (.aload_n 0, 1) := by decide +kernel
theorem dX8_weigh_12 : decode cX8_weigh 12 = .ok (.getfield 22, 3) := by decide +kernel
theorem dX8_weigh_15 : decode cX8_weigh 15 = .ok (.getfield 87, 3) := by decide +kernel
theorem dX8_weigh_18 : decode cX8_weigh 18 = .ok (.if_icmp .ge 32, 3) := by decide +kernel
theorem dX8_weigh_21 : decode cX8_weigh 21 = .ok (.aload_n 0, 1) := by decide +kernel
theorem dX8_weigh_22 : decode cX8_weigh 22 = .ok (.getfield 48, 3) := by decide +kernel
theorem dX8_weigh_25 : decode cX8_weigh 25 = .ok (.aload_n 0, 1) := by decide +kernel
theorem dX8_weigh_26 : decode cX8_weigh 26 = .ok (.getfield 32, 3) := by decide +kernel
theorem dX8_weigh_29 : decode cX8_weigh 29 = .ok (.iload_n 1, 1) := by decide +kernel
theorem dX8_weigh_30 : decode cX8_weigh 30 = .ok (.aaload, 1) := by decide +kernel
theorem dX8_weigh_31 : decode cX8_weigh 31 = .ok (.aload_n 0, 1) := by decide +kernel
theorem dX8_weigh_32 : decode cX8_weigh 32 = .ok (.getfield 12, 3) := by decide +kernel
theorem dX8_weigh_35 : decode cX8_weigh 35 = .ok (.getfield 146, 3) := by decide +kernel
theorem dX8_weigh_38 : decode cX8_weigh 38 = .ok (.iload_n 1, 1) := by decide +kernel
theorem dX8_weigh_39 : decode cX8_weigh 39 = .ok (.iaload, 1) := by decide +kernel
theorem dX8_weigh_40 : decode cX8_weigh 40 = .ok (.iaload, 1) := by decide +kernel
theorem dX8_weigh_41 : decode cX8_weigh 41 = .ok (.invokevirtual 149, 3) := by decide +kernel
theorem dX8_weigh_44 : decode cX8_weigh 44 = .ok (.iinc 1 1, 3) := by decide +kernel
theorem dX8_weigh_47 : decode cX8_weigh 47 = .ok (.goto (-37), 3) := by decide +kernel
theorem dX8_weigh_50 : decode cX8_weigh 50 = .ok (.iconst 0, 1) := by decide +kernel
theorem dX8_weigh_51 : decode cX8_weigh 51 = .ok (.istore_n 1, 1) := by decide +kernel
theorem dX8_weigh_52 : decode cX8_weigh 52 = .ok (.iload_n 1, 1) := by decide +kernel
theorem dX8_weigh_53 : decode cX8_weigh 53 = .ok (.aload_n 0, 1) := by decide +kernel
theorem dX8_weigh_54 : decode cX8_weigh 54 = .ok (.getfield 22, 3) := by decide +kernel
theorem dX8_weigh_57 : decode cX8_weigh 57 = .ok (.getfield 152, 3) := by decide +kernel
theorem dX8_weigh_60 : decode cX8_weigh 60 = .ok (.if_icmp .ge 83, 3) := by decide +kernel
theorem dX8_weigh_63 : decode cX8_weigh 63 = .ok (.aload_n 0, 1) := by decide +kernel
theorem dX8_weigh_64 : decode cX8_weigh 64 = .ok (.getfield 48, 3) := by decide +kernel
theorem dX8_weigh_67 : decode cX8_weigh 67 = .ok (.invokevirtual 155, 3) := by decide +kernel
theorem dX8_weigh_70 : decode cX8_weigh 70 = .ok (.ifCond .ne 73, 3) := by decide +kernel
theorem dX8_weigh_73 : decode cX8_weigh 73 = .ok (.aload_n 0, 1) := by decide +kernel
theorem dX8_weigh_74 : decode cX8_weigh 74 = .ok (.getfield 22, 3) := by decide +kernel
theorem dX8_weigh_77 : decode cX8_weigh 77 = .ok (.getfield 159, 3) := by decide +kernel
theorem dX8_weigh_80 : decode cX8_weigh 80 = .ok (.iload_n 1, 1) := by decide +kernel
theorem dX8_weigh_81 : decode cX8_weigh 81 = .ok (.aaload, 1) := by decide +kernel
theorem dX8_weigh_82 : decode cX8_weigh 82 = .ok (.astore_n 2, 1) := by decide +kernel
theorem dX8_weigh_83 : decode cX8_weigh 83 = .ok (.aload_n 0, 1) := by decide +kernel
theorem dX8_weigh_84 : decode cX8_weigh 84 = .ok (.getfield 12, 3) := by decide +kernel
theorem dX8_weigh_87 : decode cX8_weigh 87 = .ok (.aload_n 2, 1) := by decide +kernel
theorem dX8_weigh_88 : decode cX8_weigh 88 = .ok (.iconst 0, 1) := by decide +kernel
theorem dX8_weigh_89 : decode cX8_weigh 89 = .ok (.iaload, 1) := by decide +kernel
theorem dX8_weigh_90 : decode cX8_weigh 90 = .ok (.aload_n 2, 1) := by decide +kernel
theorem dX8_weigh_91 : decode cX8_weigh 91 = .ok (.iconst 1, 1) := by decide +kernel
theorem dX8_weigh_92 : decode cX8_weigh 92 = .ok (.iaload, 1) := by decide +kernel
theorem dX8_weigh_93 : decode cX8_weigh 93 = .ok (.invokevirtual 162, 3) := by decide +kernel
theorem dX8_weigh_96 : decode cX8_weigh 96 = .ok (.istore_n 3, 1) := by decide +kernel
theorem dX8_weigh_97 : decode cX8_weigh 97 = .ok (.aload_n 0, 1) := by decide +kernel
theorem dX8_weigh_98 : decode cX8_weigh 98 = .ok (.getfield 51, 3) := by decide +kernel
theorem dX8_weigh_101 : decode cX8_weigh 101 = .ok (.aload_n 0, 1) := by decide +kernel
theorem dX8_weigh_102 : decode cX8_weigh 102 = .ok (.getfield 48, 3) := by decide +kernel
theorem dX8_weigh_105 : decode cX8_weigh 105 = .ok (.aload_n 0, 1) := by decide +kernel
theorem dX8_weigh_106 : decode cX8_weigh 106 = .ok (.getfield 26, 3) := by decide +kernel
theorem dX8_weigh_109 : decode cX8_weigh 109 = .ok (.iload_n 1, 1) := by decide +kernel
theorem dX8_weigh_110 : decode cX8_weigh 110 = .ok (.iload_n 3, 1) := by decide +kernel
theorem dX8_weigh_111 : decode cX8_weigh 111 = .ok (.invokevirtual 166, 3) := by decide +kernel
theorem dX8_weigh_114 : decode cX8_weigh 114 = .ok (.invokevirtual 170, 3) := by decide +kernel
theorem dX8_weigh_117 : decode cX8_weigh 117 = .ok (.aload_n 0, 1) := by decide +kernel
theorem dX8_weigh_118 : decode cX8_weigh 118 = .ok (.getfield 51, 3) := by decide +kernel
theorem dX8_weigh_121 : decode cX8_weigh 121 = .ok (.astore 4, 2) := by decide +kernel
theorem dX8_weigh_123 : decode cX8_weigh 123 = .ok (.aload_n 0, 1) := by decide +kernel
theorem dX8_weigh_124 : decode cX8_weigh 124 = .ok (.aload_n 0, 1) := by decide +kernel
theorem dX8_weigh_125 : decode cX8_weigh 125 = .ok (.getfield 48, 3) := by decide +kernel
theorem dX8_weigh_128 : decode cX8_weigh 128 = .ok (.putfield 51, 3) := by decide +kernel
theorem dX8_weigh_131 : decode cX8_weigh 131 = .ok (.aload_n 0, 1) := by decide +kernel
theorem dX8_weigh_132 : decode cX8_weigh 132 = .ok (.aload 4, 2) := by decide +kernel
theorem dX8_weigh_134 : decode cX8_weigh 134 = .ok (.putfield 48, 3) := by decide +kernel
theorem dX8_weigh_137 : decode cX8_weigh 137 = .ok (.iinc 1 1, 3) := by decide +kernel
theorem dX8_weigh_140 : decode cX8_weigh 140 = .ok (.goto (-88), 3) := by decide +kernel
theorem dX8_weigh_143 : decode cX8_weigh 143 = .ok (.aload_n 0, 1) := by decide +kernel
theorem dX8_weigh_144 : decode cX8_weigh 144 = .ok (.getfield 84, 3) := by decide +kernel
theorem dX8_weigh_147 : decode cX8_weigh 147 = .ok (.ifCond .le 53, 3) := by decide +kernel
theorem dX8_weigh_150 : decode cX8_weigh 150 = .ok (.aload_n 0, 1) := by decide +kernel
theorem dX8_weigh_151 : decode cX8_weigh 151 = .ok (.getfield 48, 3) := by decide +kernel
theorem dX8_weigh_154 : decode cX8_weigh 154 = .ok (.invokevirtual 155, 3) := by decide +kernel
theorem dX8_weigh_157 : decode cX8_weigh 157 = .ok (.ifCond .ne 43, 3) := by decide +kernel
theorem dX8_weigh_160 : decode cX8_weigh 160 = .ok (.aload_n 0, 1) := by decide +kernel
theorem dX8_weigh_161 : decode cX8_weigh 161 = .ok (.getfield 12, 3) := by decide +kernel
theorem dX8_weigh_164 : decode cX8_weigh 164 = .ok (.invokevirtual 174, 3) := by decide +kernel
theorem dX8_weigh_167 : decode cX8_weigh 167 = .ok (.istore_n 1, 1) := by decide +kernel
theorem dX8_weigh_168 : decode cX8_weigh 168 = .ok (.aload_n 0, 1) := by decide +kernel
theorem dX8_weigh_169 : decode cX8_weigh 169 = .ok (.getfield 48, 3) := by decide +kernel
theorem dX8_weigh_172 : decode cX8_weigh 172 = .ok (.aload_n 0, 1) := by decide +kernel
theorem dX8_weigh_173 : decode cX8_weigh 173 = .ok (.getfield 22, 3) := by decide +kernel
theorem dX8_weigh_176 : decode cX8_weigh 176 = .ok (.getfield 74, 3) := by decide +kernel
theorem dX8_weigh_179 : decode cX8_weigh 179 = .ok (.iconst 0, 1) := by decide +kernel
theorem dX8_weigh_180 : decode cX8_weigh 180 = .ok (.iaload, 1) := by decide +kernel
theorem dX8_weigh_181 : decode cX8_weigh 181 = .ok (.iload_n 1, 1) := by decide +kernel
theorem dX8_weigh_182 : decode cX8_weigh 182 = .ok (.invokevirtual 177, 3) := by decide +kernel
theorem dX8_weigh_185 : decode cX8_weigh 185 = .ok (.aload_n 0, 1) := by decide +kernel
theorem dX8_weigh_186 : decode cX8_weigh 186 = .ok (.getfield 48, 3) := by decide +kernel
theorem dX8_weigh_189 : decode cX8_weigh 189 = .ok (.bipush 9, 2) := by decide +kernel
theorem dX8_weigh_191 : decode cX8_weigh 191 = .ok (.aload_n 0, 1) := by decide +kernel
theorem dX8_weigh_192 : decode cX8_weigh 192 = .ok (.getfield 84, 3) := by decide +kernel
theorem dX8_weigh_195 : decode cX8_weigh 195 = .ok (.iload_n 1, 1) := by decide +kernel
theorem dX8_weigh_196 : decode cX8_weigh 196 = .ok (.isub, 1) := by decide +kernel
theorem dX8_weigh_197 : decode cX8_weigh 197 = .ok (.invokevirtual 177, 3) := by decide +kernel
theorem dX8_weigh_200 : decode cX8_weigh 200 = .ok (.return_, 1) := by decide +kernel
theorem dX8_addUp_0 : decode cX8_addUp 0 = .ok (.aload_n 0, 1) := by decide +kernel
theorem dX8_addUp_1 : decode cX8_addUp 1 = .ok (.getfield 48, 3) := by decide +kernel
theorem dX8_addUp_4 : decode cX8_addUp 4 = .ok (.invokevirtual 155, 3) := by decide +kernel
theorem dX8_addUp_7 : decode cX8_addUp 7 = .ok (.ifCond .eq 4, 3) := by decide +kernel
theorem dX8_addUp_10 : decode cX8_addUp 10 = .ok (.return_, 1) := by decide +kernel
theorem dX8_addUp_11 : decode cX8_addUp 11 = .ok (.aload_n 0, 1) := by decide +kernel
theorem dX8_addUp_12 : decode cX8_addUp 12 = .ok (.getfield 57, 3) := by decide +kernel
theorem dX8_addUp_15 : decode cX8_addUp 15 = .ok (.aload_n 0, 1) := by decide +kernel
theorem dX8_addUp_16 : decode cX8_addUp 16 = .ok (.getfield 48, 3) := by decide +kernel
theorem dX8_addUp_19 : decode cX8_addUp 19 = .ok (.invokevirtual 181, 3) := by decide +kernel
theorem dX8_addUp_22 : decode cX8_addUp 22 = .ok (.iconst 0, 1) := by decide +kernel
theorem dX8_addUp_23 : decode cX8_addUp 23 = .ok (.istore_n 1, 1) := by decide +kernel
theorem dX8_addUp_24 : decode cX8_addUp 24 = .ok (.iload_n 1, 1) := by decide +kernel
theorem dX8_addUp_25 : decode cX8_addUp 25 = .ok (.aload_n 0, 1) := by decide +kernel
theorem dX8_addUp_26 : decode cX8_addUp 26 = .ok (.getfield 22, 3) := by decide +kernel
theorem dX8_addUp_29 : decode cX8_addUp 29 = .ok (.getfield 87, 3) := by decide +kernel
theorem dX8_addUp_32 : decode cX8_addUp 32 = .ok (.if_icmp .ge 30, 3) := by decide +kernel
theorem dX8_addUp_35 : decode cX8_addUp 35 = .ok (.aload_n 0, 1) := by decide +kernel
theorem dX8_addUp_36 : decode cX8_addUp 36 = .ok (.iload_n 1, 1) := by decide +kernel
theorem dX8_addUp_37 : decode cX8_addUp 37 = .ok (.aload_n 0, 1) := by decide +kernel
theorem dX8_addUp_38 : decode cX8_addUp 38 = .ok (.getfield 12, 3) := by decide +kernel
theorem dX8_addUp_41 : decode cX8_addUp 41 = .ok (.getfield 146, 3) := by decide +kernel
theorem dX8_addUp_44 : decode cX8_addUp 44 = .ok (.iload_n 1, 1) := by decide +kernel
theorem dX8_addUp_45 : decode cX8_addUp 45 = .ok (.iaload, 1) := by decide +kernel
theorem dX8_addUp_46 : decode cX8_addUp 46 = .ok (.invokevirtual 185, 3) := by decide +kernel
theorem dX8_addUp_49 : decode cX8_addUp 49 = .ok (.aload_n 0, 1) := by decide +kernel
theorem dX8_addUp_50 : decode cX8_addUp 50 = .ok (.getfield 48, 3) := by decide +kernel
theorem dX8_addUp_53 : decode cX8_addUp 53 = .ok (.invokevirtual 181, 3) := by decide +kernel
theorem dX8_addUp_56 : decode cX8_addUp 56 = .ok (.iinc 1 1, 3) := by decide +kernel
theorem dX8_addUp_59 : decode cX8_addUp 59 = .ok (.goto (-35), 3) := by decide +kernel
theorem dX8_addUp_62 : decode cX8_addUp 62 = .ok (.iconst 0, 1) := by decide +kernel
theorem dX8_addUp_63 : decode cX8_addUp 63 = .ok (.istore_n 1, 1) := by decide +kernel
theorem dX8_addUp_64 : decode cX8_addUp 64 = .ok (.iload_n 1, 1) := by decide +kernel
theorem dX8_addUp_65 : decode cX8_addUp 65 = .ok (.iconst 4, 1) := by decide +kernel
theorem dX8_addUp_66 : decode cX8_addUp 66 = .ok (.if_icmp .ge 33, 3) := by decide +kernel
theorem dX8_addUp_69 : decode cX8_addUp 69 = .ok (.aload_n 0, 1) := by decide +kernel
theorem dX8_addUp_70 : decode cX8_addUp 70 = .ok (.getfield 12, 3) := by decide +kernel
theorem dX8_addUp_73 : decode cX8_addUp 73 = .ok (.iload_n 1, 1) := by decide +kernel
theorem dX8_addUp_74 : decode cX8_addUp 74 = .ok (.invokevirtual 188, 3) := by decide +kernel
theorem dX8_addUp_77 : decode cX8_addUp 77 = .ok (.ifCond .eq 16, 3) := by decide +kernel
theorem dX8_addUp_80 : decode cX8_addUp 80 = .ok (.aload_n 0, 1) := by decide +kernel
theorem dX8_addUp_81 : decode cX8_addUp 81 = .ok (.getfield 54, 3) := by decide +kernel
theorem dX8_addUp_84 : decode cX8_addUp 84 = .ok (.iload_n 1, 1) := by decide +kernel
theorem dX8_addUp_85 : decode cX8_addUp 85 = .ok (.aaload, 1) := by decide +kernel
theorem dX8_addUp_86 : decode cX8_addUp 86 = .ok (.aload_n 0, 1) := by decide +kernel
theorem dX8_addUp_87 : decode cX8_addUp 87 = .ok (.getfield 48, 3) := by decide +kernel
theorem dX8_addUp_90 : decode cX8_addUp 90 = .ok (.invokevirtual 181, 3) := by decide +kernel
theorem dX8_addUp_93 : decode cX8_addUp 93 = .ok (.iinc 1 1, 3) := by decide +kernel
theorem dX8_addUp_96 : decode cX8_addUp 96 = .ok (.goto (-32), 3) := by decide +kernel
theorem dX8_addUp_99 : decode cX8_addUp 99 = .ok (.return_, 1) := by decide +kernel
theorem dX8_gatherWhere_0 : decode cX8_gatherWhere 0 = .ok (.aload_n 0, 1) := by decide +kernel
theorem dX8_gatherWhere_1 : decode cX8_gatherWhere 1 = .ok (.getfield 44, 3) := by decide +kernel
theorem dX8_gatherWhere_4 : decode cX8_gatherWhere 4 = .ok (.lconst 0, 1) := by decide +kernel
theorem dX8_gatherWhere_5 : decode cX8_gatherWhere 5 = .ok (.invokevirtual 100, 3) := by decide +kernel
theorem dX8_gatherWhere_8 : decode cX8_gatherWhere 8 = .ok (.iconst 0, 1) := by decide +kernel
theorem dX8_gatherWhere_9 : decode cX8_gatherWhere 9 = .ok (.istore 4, 2) := by decide +kernel
theorem dX8_gatherWhere_11 : decode cX8_gatherWhere 11 = .ok (.iload 4, 2) := by decide +kernel
theorem dX8_gatherWhere_13 : decode cX8_gatherWhere 13 = .ok (.iconst 4, 1) := by decide +kernel
theorem dX8_gatherWhere_14 : decode cX8_gatherWhere 14 = .ok (.if_icmp .ge 42, 3) := by decide +kernel
theorem dX8_gatherWhere_17 : decode cX8_gatherWhere 17 = .ok (.aload_n 0, 1) := by decide +kernel
theorem dX8_gatherWhere_18 : decode cX8_gatherWhere 18 = .ok (.getfield 12, 3) := by decide +kernel
theorem dX8_gatherWhere_21 : decode cX8_gatherWhere 21 = .ok (.getfield 107, 3) := by decide +kernel
theorem dX8_gatherWhere_24 : decode cX8_gatherWhere 24 = .ok (.iload 4, 2) := by decide +kernel
theorem dX8_gatherWhere_26 : decode cX8_gatherWhere 26 = .ok (.aaload, 1) := by decide +kernel
theorem dX8_gatherWhere_27 : decode cX8_gatherWhere 27 = .ok (.getfield 128, 3) := by decide +kernel
theorem dX8_gatherWhere_30 : decode cX8_gatherWhere 30 = .ok (.iload_n 2, 1) := by decide +kernel
theorem dX8_gatherWhere_31 : decode cX8_gatherWhere 31 = .ok (.iaload, 1) := by decide +kernel
theorem dX8_gatherWhere_32 : decode cX8_gatherWhere 32 = .ok (.iload_n 3, 1) := by decide +kernel
theorem dX8_gatherWhere_33 : decode cX8_gatherWhere 33 = .ok (.if_icmp .ne 17, 3) := by decide +kernel
theorem dX8_gatherWhere_36 : decode cX8_gatherWhere 36 = .ok (.aload_n 0, 1) := by decide +kernel
theorem dX8_gatherWhere_37 : decode cX8_gatherWhere 37 = .ok (.getfield 44, 3) := by decide +kernel
theorem dX8_gatherWhere_40 : decode cX8_gatherWhere 40 = .ok (.aload_n 0, 1) := by decide +kernel
theorem dX8_gatherWhere_41 : decode cX8_gatherWhere 41 = .ok (.iload_n 1, 1) := by decide +kernel
theorem dX8_gatherWhere_42 : decode cX8_gatherWhere 42 = .ok (.iload 4, 2) := by decide +kernel
theorem dX8_gatherWhere_44 : decode cX8_gatherWhere 44 = .ok (.invokevirtual 185, 3) := by decide +kernel
theorem dX8_gatherWhere_47 : decode cX8_gatherWhere 47 = .ok (.invokevirtual 181, 3) := by decide +kernel
theorem dX8_gatherWhere_50 : decode cX8_gatherWhere 50 = .ok (.iinc 4 1, 3) := by decide +kernel
theorem dX8_gatherWhere_53 : decode cX8_gatherWhere 53 = .ok (.goto (-42), 3) := by decide +kernel
theorem dX8_gatherWhere_56 : decode cX8_gatherWhere 56 = .ok (.aload_n 0, 1) := by decide +kernel
theorem dX8_gatherWhere_57 : decode cX8_gatherWhere 57 = .ok (.getfield 44, 3) := by decide +kernel
theorem dX8_gatherWhere_60 : decode cX8_gatherWhere 60 = .ok (.areturn, 1) := by decide +kernel
theorem dX8_lostOf_0 : decode cX8_lostOf 0 = .ok (.iconst 0, 1) := by decide +kernel
theorem dX8_lostOf_1 : decode cX8_lostOf 1 = .ok (.istore_n 2, 1) := by decide +kernel
theorem dX8_lostOf_2 : decode cX8_lostOf 2 = .ok (.iconst 0, 1) := by decide +kernel
theorem dX8_lostOf_3 : decode cX8_lostOf 3 = .ok (.istore_n 3, 1) := by decide +kernel
theorem dX8_lostOf_4 : decode cX8_lostOf 4 = .ok (.iconst 0, 1) := by decide +kernel
theorem dX8_lostOf_5 : decode cX8_lostOf 5 = .ok (.istore 4, 2) := by decide +kernel
theorem dX8_lostOf_7 : decode cX8_lostOf 7 = .ok (.iload 4, 2) := by decide +kernel
theorem dX8_lostOf_9 : decode cX8_lostOf 9 = .ok (.iconst 4, 1) := by decide +kernel
theorem dX8_lostOf_10 : decode cX8_lostOf 10 = .ok (.if_icmp .ge 97, 3) := by decide +kernel
theorem dX8_lostOf_13 : decode cX8_lostOf 13 = .ok (.aload_n 0, 1) := by decide +kernel
theorem dX8_lostOf_14 : decode cX8_lostOf 14 = .ok (.getfield 12, 3) := by decide +kernel
theorem dX8_lostOf_17 : decode cX8_lostOf 17 = .ok (.getfield 107, 3) := by decide +kernel
theorem dX8_lostOf_20 : decode cX8_lostOf 20 = .ok (.iload 4, 2) := by decide +kernel
theorem dX8_lostOf_22 : decode cX8_lostOf 22 = .ok (.aaload, 1) := by decide +kernel
theorem dX8_lostOf_23 : decode cX8_lostOf 23 = .ok (.getfield 128, 3) := by decide +kernel
theorem dX8_lostOf_26 : decode cX8_lostOf 26 = .ok (.bipush 119, 2) := by decide +kernel
theorem dX8_lostOf_28 : decode cX8_lostOf 28 = .ok (.iaload, 1) := by decide +kernel
theorem dX8_lostOf_29 : decode cX8_lostOf 29 = .ok (.bipush 7, 2) := by decide +kernel
theorem dX8_lostOf_31 : decode cX8_lostOf 31 = .ok (.if_icmp .ne 7, 3) := by decide +kernel
theorem dX8_lostOf_34 : decode cX8_lostOf 34 = .ok (.iconst 1, 1) := by decide +kernel
theorem dX8_lostOf_35 : decode cX8_lostOf 35 = .ok (.goto 4, 3) := by decide +kernel
theorem dX8_lostOf_38 : decode cX8_lostOf 38 = .ok (.iconst 0, 1) := by decide +kernel
theorem dX8_lostOf_39 : decode cX8_lostOf 39 = .ok (.istore 5, 2) := by decide +kernel
theorem dX8_lostOf_41 : decode cX8_lostOf 41 = .ok (.aload_n 0, 1) := by decide +kernel
theorem dX8_lostOf_42 : decode cX8_lostOf 42 = .ok (.iload_n 1, 1) := by decide +kernel
theorem dX8_lostOf_43 : decode cX8_lostOf 43 = .ok (.iload 4, 2) := by decide +kernel
theorem dX8_lostOf_45 : decode cX8_lostOf 45 = .ok (.invokevirtual 185, 3) := by decide +kernel
theorem dX8_lostOf_48 : decode cX8_lostOf 48 = .ok (.invokevirtual 155, 3) := by decide +kernel
theorem dX8_lostOf_51 : decode cX8_lostOf 51 = .ok (.ifCond .ne 7, 3) := by decide +kernel
theorem dX8_lostOf_54 : decode cX8_lostOf 54 = .ok (.iconst 1, 1) := by decide +kernel
theorem dX8_lostOf_55 : decode cX8_lostOf 55 = .ok (.goto 4, 3) := by decide +kernel
theorem dX8_lostOf_58 : decode cX8_lostOf 58 = .ok (.iconst 0, 1) := by decide +kernel
theorem dX8_lostOf_59 : decode cX8_lostOf 59 = .ok (.istore 6, 2) := by decide +kernel
theorem dX8_lostOf_61 : decode cX8_lostOf 61 = .ok (.iload_n 2, 1) := by decide +kernel
theorem dX8_lostOf_62 : decode cX8_lostOf 62 = .ok (.ifCond .ne 13, 3) := by decide +kernel
theorem dX8_lostOf_65 : decode cX8_lostOf 65 = .ok (.iload 6, 2) := by decide +kernel
theorem dX8_lostOf_67 : decode cX8_lostOf 67 = .ok (.ifCond .eq 12, 3) := by decide +kernel
theorem dX8_lostOf_70 : decode cX8_lostOf 70 = .ok (.iload 5, 2) := by decide +kernel
theorem dX8_lostOf_72 : decode cX8_lostOf 72 = .ok (.ifCond .eq 7, 3) := by decide +kernel
theorem dX8_lostOf_75 : decode cX8_lostOf 75 = .ok (.iconst 1, 1) := by decide +kernel
theorem dX8_lostOf_76 : decode cX8_lostOf 76 = .ok (.goto 4, 3) := by decide +kernel
theorem dX8_lostOf_79 : decode cX8_lostOf 79 = .ok (.iconst 0, 1) := by decide +kernel
theorem dX8_lostOf_80 : decode cX8_lostOf 80 = .ok (.istore_n 2, 1) := by decide +kernel
theorem dX8_lostOf_81 : decode cX8_lostOf 81 = .ok (.iload_n 3, 1) := by decide +kernel
theorem dX8_lostOf_82 : decode cX8_lostOf 82 = .ok (.ifCond .ne 13, 3) := by decide +kernel
theorem dX8_lostOf_85 : decode cX8_lostOf 85 = .ok (.iload 6, 2) := by decide +kernel
theorem dX8_lostOf_87 : decode cX8_lostOf 87 = .ok (.ifCond .eq 12, 3) := by decide +kernel
theorem dX8_lostOf_90 : decode cX8_lostOf 90 = .ok (.iload 5, 2) := by decide +kernel
theorem dX8_lostOf_92 : decode cX8_lostOf 92 = .ok (.ifCond .ne 7, 3) := by decide +kernel
theorem dX8_lostOf_95 : decode cX8_lostOf 95 = .ok (.iconst 1, 1) := by decide +kernel
theorem dX8_lostOf_96 : decode cX8_lostOf 96 = .ok (.goto 4, 3) := by decide +kernel
theorem dX8_lostOf_99 : decode cX8_lostOf 99 = .ok (.iconst 0, 1) := by decide +kernel
theorem dX8_lostOf_100 : decode cX8_lostOf 100 = .ok (.istore_n 3, 1) := by decide +kernel
theorem dX8_lostOf_101 : decode cX8_lostOf 101 = .ok (.iinc 4 1, 3) := by decide +kernel
theorem dX8_lostOf_104 : decode cX8_lostOf 104 = .ok (.goto (-97), 3) := by decide +kernel
theorem dX8_lostOf_107 : decode cX8_lostOf 107 = .ok (.iload_n 2, 1) := by decide +kernel
theorem dX8_lostOf_108 : decode cX8_lostOf 108 = .ok (.ifCond .eq 11, 3) := by decide +kernel
theorem dX8_lostOf_111 : decode cX8_lostOf 111 = .ok (.iload_n 3, 1) := by decide +kernel
theorem dX8_lostOf_112 : decode cX8_lostOf 112 = .ok (.ifCond .eq 7, 3) := by decide +kernel
theorem dX8_lostOf_115 : decode cX8_lostOf 115 = .ok (.iconst 2, 1) := by decide +kernel
theorem dX8_lostOf_116 : decode cX8_lostOf 116 = .ok (.goto 12, 3) := by decide +kernel
theorem dX8_lostOf_119 : decode cX8_lostOf 119 = .ok (.iload_n 2, 1) := by decide +kernel
theorem dX8_lostOf_120 : decode cX8_lostOf 120 = .ok (.ifCond .eq 7, 3) := by decide +kernel
theorem dX8_lostOf_123 : decode cX8_lostOf 123 = .ok (.iconst 1, 1) := by decide +kernel
theorem dX8_lostOf_124 : decode cX8_lostOf 124 = .ok (.goto 4, 3) := by decide +kernel
theorem dX8_lostOf_127 : decode cX8_lostOf 127 = .ok (.iconst 0, 1) := by decide +kernel
theorem dX8_lostOf_128 : decode cX8_lostOf 128 = .ok (.ireturn, 1) := by decide +kernel
theorem dX8_digNext_0 : decode cX8_digNext 0 = .ok (.iconst (-1), 1) := by decide +kernel
theorem dX8_digNext_1 : decode cX8_digNext 1 = .ok (.istore_n 1, 1) := by decide +kernel
theorem dX8_digNext_2 : decode cX8_digNext 2 = .ok (.iconst 0, 1) := by decide +kernel
theorem dX8_digNext_3 : decode cX8_digNext 3 = .ok (.istore_n 2, 1) := by decide +kernel
theorem dX8_digNext_4 : decode cX8_digNext 4 = .ok (.iconst 0, 1) := by decide +kernel
theorem dX8_digNext_5 : decode cX8_digNext 5 = .ok (.istore_n 3, 1) := by decide +kernel
theorem dX8_digNext_6 : decode cX8_digNext 6 = .ok (.iload_n 3, 1) := by decide +kernel
theorem dX8_digNext_7 : decode cX8_digNext 7 = .ok (.aload_n 0, 1) := by decide +kernel
theorem dX8_digNext_8 : decode cX8_digNext 8 = .ok (.getfield 22, 3) := by decide +kernel
theorem dX8_digNext_11 : decode cX8_digNext 11 = .ok (.getfield 191, 3) := by decide +kernel
theorem dX8_digNext_14 : decode cX8_digNext 14 = .ok (.if_icmp .ge 67, 3) := by decide +kernel
theorem dX8_digNext_17 : decode cX8_digNext 17 = .ok (.iconst 0, 1) := by decide +kernel
theorem dX8_digNext_18 : decode cX8_digNext 18 = .ok (.istore 4, 2) := by decide +kernel
theorem dX8_digNext_20 : decode cX8_digNext 20 = .ok (.iload 4, 2) := by decide +kernel
theorem dX8_digNext_22 : decode cX8_digNext 22 = .ok (.iconst 4, 1) := by decide +kernel
theorem dX8_digNext_23 : decode cX8_digNext 23 = .ok (.if_icmp .ge 52, 3) := by decide +kernel
theorem dX8_digNext_26 : decode cX8_digNext 26 = .ok (.aload_n 0, 1) := by decide +kernel
theorem dX8_digNext_27 : decode cX8_digNext 27 = .ok (.getfield 22, 3) := by decide +kernel
theorem dX8_digNext_30 : decode cX8_digNext 30 = .ok (.iload_n 3, 1) := by decide +kernel
theorem dX8_digNext_31 : decode cX8_digNext 31 = .ok (.iload 4, 2) := by decide +kernel
theorem dX8_digNext_33 : decode cX8_digNext 33 = .ok (.invokevirtual 194, 3) := by decide +kernel
theorem dX8_digNext_36 : decode cX8_digNext 36 = .ok (.ifCond .eq 7, 3) := by decide +kernel
theorem dX8_digNext_39 : decode cX8_digNext 39 = .ok (.iconst 0, 1) := by decide +kernel
theorem dX8_digNext_40 : decode cX8_digNext 40 = .ok (.goto 10, 3) := by decide +kernel
theorem dX8_digNext_43 : decode cX8_digNext 43 = .ok (.aload_n 0, 1) := by decide +kernel
theorem dX8_digNext_44 : decode cX8_digNext 44 = .ok (.iload_n 3, 1) := by decide +kernel
theorem dX8_digNext_45 : decode cX8_digNext 45 = .ok (.iload 4, 2) := by decide +kernel
theorem dX8_digNext_47 : decode cX8_digNext 47 = .ok (.invokevirtual 198, 3) := by decide +kernel
theorem dX8_digNext_50 : decode cX8_digNext 50 = .ok (.istore 5, 2) := by decide +kernel
theorem dX8_digNext_52 : decode cX8_digNext 52 = .ok (.iload 5, 2) := by decide +kernel
theorem dX8_digNext_54 : decode cX8_digNext 54 = .ok (.iload_n 2, 1) := by decide +kernel
theorem dX8_digNext_55 : decode cX8_digNext 55 = .ok (.if_icmp .le 14, 3) := by decide +kernel
theorem dX8_digNext_58 : decode cX8_digNext 58 = .ok (.iload 5, 2) := by decide +kernel
theorem dX8_digNext_60 : decode cX8_digNext 60 = .ok (.istore_n 2, 1) := by decide +kernel
theorem dX8_digNext_61 : decode cX8_digNext 61 = .ok (.bipush 10, 2) := by decide +kernel
theorem dX8_digNext_63 : decode cX8_digNext 63 = .ok (.iload_n 3, 1) := by decide +kernel
theorem dX8_digNext_64 : decode cX8_digNext 64 = .ok (.imul, 1) := by decide +kernel
theorem dX8_digNext_65 : decode cX8_digNext 65 = .ok (.iload 4, 2) := by decide +kernel
theorem dX8_digNext_67 : decode cX8_digNext 67 = .ok (.iadd, 1) := by decide +kernel
theorem dX8_digNext_68 : decode cX8_digNext 68 = .ok (.istore_n 1, 1) := by decide +kernel
theorem dX8_digNext_69 : decode cX8_digNext 69 = .ok (.iinc 4 1, 3) := by decide +kernel
theorem dX8_digNext_72 : decode cX8_digNext 72 = .ok (.goto (-52), 3) := by decide +kernel
theorem dX8_digNext_75 : decode cX8_digNext 75 = .ok (.iinc 3 1, 3) := by decide +kernel
theorem dX8_digNext_78 : decode cX8_digNext 78 = .ok (.goto (-72), 3) := by decide +kernel
theorem dX8_digNext_81 : decode cX8_digNext 81 = .ok (.iload_n 1, 1) := by decide +kernel
theorem dX8_digNext_82 : decode cX8_digNext 82 = .ok (.ireturn, 1) := by decide +kernel
theorem dX8_differenceAt_0 : decode cX8_differenceAt 0 = .ok (.bipush 20, 2) := by decide +kernel
theorem dX8_differenceAt_2 : decode cX8_differenceAt 2 = .ok (.istore_n 3, 1) := by decide +kernel
theorem dX8_differenceAt_3 : decode cX8_differenceAt 3 = .ok (.iconst 0, 1) := by decide +kernel
theorem dX8_differenceAt_4 : decode cX8_differenceAt 4 = .ok (.istore 4, 2) := by decide +kernel
theorem dX8_differenceAt_6 : decode cX8_differenceAt 6 = .ok (.iconst 0, 1) := by decide +kernel
theorem dX8_differenceAt_7 : decode cX8_differenceAt 7 = .ok (.istore 5, 2) := by decide +kernel
theorem dX8_differenceAt_9 : decode cX8_differenceAt 9 = .ok (.iload 5, 2) := by decide +kernel
theorem dX8_differenceAt_11 : decode cX8_differenceAt 11 = .ok (.iconst 4, 1) := by decide +kernel
theorem dX8_differenceAt_12 : decode cX8_differenceAt 12 = .ok (.if_icmp .ge 58, 3) := by decide +kernel
theorem dX8_differenceAt_15 : decode cX8_differenceAt 15 = .ok (.aload_n 0, 1) := by decide +kernel
theorem dX8_differenceAt_16 : decode cX8_differenceAt 16 = .ok (.getfield 54, 3) := by decide +kernel
theorem dX8_differenceAt_19 : decode cX8_differenceAt 19 = .ok (.iload 5, 2) := by decide +kernel
theorem dX8_differenceAt_21 : decode cX8_differenceAt 21 = .ok (.aaload, 1) := by decide +kernel
theorem dX8_differenceAt_22 : decode cX8_differenceAt 22 = .ok (.invokevirtual 155, 3) := by decide +kernel
theorem dX8_differenceAt_25 : decode cX8_differenceAt 25 = .ok (.ifCond .ne 39, 3) := by decide +kernel
theorem dX8_differenceAt_28 : decode cX8_differenceAt 28 = .ok (.aload_n 0, 1) := by decide +kernel
theorem dX8_differenceAt_29 : decode cX8_differenceAt 29 = .ok (.getfield 12, 3) := by decide +kernel
theorem dX8_differenceAt_32 : decode cX8_differenceAt 32 = .ok (.iload 5, 2) := by decide +kernel
theorem dX8_differenceAt_34 : decode cX8_differenceAt 34 = .ok (.invokevirtual 201, 3) := by decide +kernel
theorem dX8_differenceAt_37 : decode cX8_differenceAt 37 = .ok (.aload_n 0, 1) := by decide +kernel
theorem dX8_differenceAt_38 : decode cX8_differenceAt 38 = .ok (.getfield 12, 3) := by decide +kernel
theorem dX8_differenceAt_41 : decode cX8_differenceAt 41 = .ok (.iload_n 1, 1) := by decide +kernel
theorem dX8_differenceAt_42 : decode cX8_differenceAt 42 = .ok (.iload_n 2, 1) := by decide +kernel
theorem dX8_differenceAt_43 : decode cX8_differenceAt 43 = .ok (.invokevirtual 162, 3) := by decide +kernel
theorem dX8_differenceAt_46 : decode cX8_differenceAt 46 = .ok (.istore 6, 2) := by decide +kernel
theorem dX8_differenceAt_48 : decode cX8_differenceAt 48 = .ok (.iload_n 3, 1) := by decide +kernel
theorem dX8_differenceAt_49 : decode cX8_differenceAt 49 = .ok (.iload 6, 2) := by decide +kernel
theorem dX8_differenceAt_51 : decode cX8_differenceAt 51 = .ok (.invokestatic 204, 3) := by decide +kernel
theorem dX8_differenceAt_54 : decode cX8_differenceAt 54 = .ok (.istore_n 3, 1) := by decide +kernel
theorem dX8_differenceAt_55 : decode cX8_differenceAt 55 = .ok (.iload 4, 2) := by decide +kernel
theorem dX8_differenceAt_57 : decode cX8_differenceAt 57 = .ok (.iload 6, 2) := by decide +kernel
theorem dX8_differenceAt_59 : decode cX8_differenceAt 59 = .ok (.invokestatic 209, 3) := by decide +kernel
theorem dX8_differenceAt_62 : decode cX8_differenceAt 62 = .ok (.istore 4, 2) := by decide +kernel
theorem dX8_differenceAt_64 : decode cX8_differenceAt 64 = .ok (.iinc 5 1, 3) := by decide +kernel
theorem dX8_differenceAt_67 : decode cX8_differenceAt 67 = .ok (.goto (-58), 3) := by decide +kernel
theorem dX8_differenceAt_70 : decode cX8_differenceAt 70 = .ok (.iload 4, 2) := by decide +kernel
theorem dX8_differenceAt_72 : decode cX8_differenceAt 72 = .ok (.iload_n 3, 1) := by decide +kernel
theorem dX8_differenceAt_73 : decode cX8_differenceAt 73 = .ok (.isub, 1) := by decide +kernel
theorem dX8_differenceAt_74 : decode cX8_differenceAt 74 = .ok (.ireturn, 1) := by decide +kernel
theorem dJ7_fill_53178_0 : decode cJ7_fill_53178 0 = .ok (.iconst 0, 1) := by decide +kernel
theorem dJ7_fill_53178_1 : decode cJ7_fill_53178 1 = .ok (.istore_n 2, 1) := by decide +kernel
theorem dJ7_fill_53178_2 : decode cJ7_fill_53178 2 = .ok (.aload_n 0, 1) := by decide +kernel
theorem dJ7_fill_53178_3 : decode cJ7_fill_53178 3 = .ok (.arraylength, 1) := by decide +kernel
theorem dJ7_fill_53178_4 : decode cJ7_fill_53178 4 = .ok (.istore_n 3, 1) := by decide +kernel
theorem dJ7_fill_53178_5 : decode cJ7_fill_53178 5 = .ok (.iload_n 2, 1) := by decide +kernel
theorem dJ7_fill_53178_6 : decode cJ7_fill_53178 6 = .ok (.iload_n 3, 1) := by decide +kernel
theorem dJ7_fill_53178_7 : decode cJ7_fill_53178 7 = .ok (.if_icmp .ge 13, 3) := by decide +kernel
theorem dJ7_fill_53178_10 : decode cJ7_fill_53178 10 = .ok (.aload_n 0, 1) := by decide +kernel
theorem dJ7_fill_53178_11 : decode cJ7_fill_53178 11 = .ok (.iload_n 2, 1) := by decide +kernel
theorem dJ7_fill_53178_12 : decode cJ7_fill_53178 12 = .ok (.iload_n 1, 1) := by decide +kernel
theorem dJ7_fill_53178_13 : decode cJ7_fill_53178 13 = .ok (.iastore, 1) := by decide +kernel
theorem dJ7_fill_53178_14 : decode cJ7_fill_53178 14 = .ok (.iinc 2 1, 3) := by decide +kernel
theorem dJ7_fill_53178_17 : decode cJ7_fill_53178 17 = .ok (.goto (-12), 3) := by decide +kernel
theorem dJ7_fill_53178_20 : decode cJ7_fill_53178 20 = .ok (.return_, 1) := by decide +kernel
