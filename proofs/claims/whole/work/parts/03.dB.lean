theorem dX9_init_0 : decode cX9_init 0 = .ok (.aload_n 0, 1) := by decide +kernel
theorem dX9_init_1 : decode cX9_init 1 = .ok (.invokespecial 1, 3) := by decide +kernel
theorem dX9_init_4 : decode cX9_init 4 = .ok (.aload_n 0, 1) := by decide +kernel
theorem dX9_init_5 : decode cX9_init 5 = .ok (.new 7, 3) := by decide +kernel
theorem dX9_init_8 : decode cX9_init 8 = .ok (.dup, 1) := by decide +kernel
theorem dX9_init_9 : decode cX9_init 9 = .ok (.invokespecial 9, 3) := by decide +kernel
theorem dX9_init_12 : decode cX9_init 12 = .ok (.putfield 10, 3) := by decide +kernel
theorem dX9_init_15 : decode cX9_init 15 = .ok (.aload_n 0, 1) := by decide +kernel
theorem dX9_init_16 : decode cX9_init 16 = .ok (.aload_n 0, 1) := by decide +kernel
theorem dX9_init_17 : decode cX9_init 17 = .ok (.getfield 10, 3) := by decide +kernel
theorem dX9_init_20 : decode cX9_init 20 = .ok (.getfield 16, 3) := by decide +kernel
theorem dX9_init_23 : decode cX9_init 23 = .ok (.putfield 20, 3) := by decide +kernel
theorem dX9_init_26 : decode cX9_init 26 = .ok (.aload_n 0, 1) := by decide +kernel
theorem dX9_init_27 : decode cX9_init 27 = .ok (.aload_n 0, 1) := by decide +kernel
theorem dX9_init_28 : decode cX9_init 28 = .ok (.getfield 20, 3) := by decide +kernel
theorem dX9_init_31 : decode cX9_init 31 = .ok (.getfield 21, 3) := by decide +kernel
theorem dX9_init_34 : decode cX9_init 34 = .ok (.putfield 27, 3) := by decide +kernel
theorem dX9_init_37 : decode cX9_init 37 = .ok (.aload_n 0, 1) := by decide +kernel
theorem dX9_init_38 : decode cX9_init 38 = .ok (.iconst 2, 1) := by decide +kernel
theorem dX9_init_39 : decode cX9_init 39 = .ok (.anewarray 28, 3) := by decide +kernel
theorem dX9_init_42 : decode cX9_init 42 = .ok (.putfield 30, 3) := by decide +kernel
theorem dX9_init_45 : decode cX9_init 45 = .ok (.aload_n 0, 1) := by decide +kernel
theorem dX9_init_46 : decode cX9_init 46 = .ok (.iconst 2, 1) := by decide +kernel
theorem dX9_init_47 : decode cX9_init 47 = .ok (.newarray .boolean, 2) := by decide +kernel
theorem dX9_init_49 : decode cX9_init 49 = .ok (.putfield 34, 3) := by decide +kernel
theorem dX9_init_52 : decode cX9_init 52 = .ok (.aload_n 0, 1) := by decide +kernel
theorem dX9_init_53 : decode cX9_init 53 = .ok (.new 38, 3) := by decide +kernel
theorem dX9_init_56 : decode cX9_init 56 = .ok (.dup, 1) := by decide +kernel
theorem dX9_init_57 : decode cX9_init 57 = .ok (.invokespecial 40, 3) := by decide +kernel
theorem dX9_init_60 : decode cX9_init 60 = .ok (.putfield 41, 3) := by decide +kernel
theorem dX9_init_63 : decode cX9_init 63 = .ok (.aload_n 0, 1) := by decide +kernel
theorem dX9_init_64 : decode cX9_init 64 = .ok (.new 45, 3) := by decide +kernel
theorem dX9_init_67 : decode cX9_init 67 = .ok (.dup, 1) := by decide +kernel
theorem dX9_init_68 : decode cX9_init 68 = .ok (.invokespecial 47, 3) := by decide +kernel
theorem dX9_init_71 : decode cX9_init 71 = .ok (.putfield 48, 3) := by decide +kernel
theorem dX9_init_74 : decode cX9_init 74 = .ok (.aload_n 0, 1) := by decide +kernel
theorem dX9_init_75 : decode cX9_init 75 = .ok (.new 52, 3) := by decide +kernel
theorem dX9_init_78 : decode cX9_init 78 = .ok (.dup, 1) := by decide +kernel
theorem dX9_init_79 : decode cX9_init 79 = .ok (.iconst 5, 1) := by decide +kernel
theorem dX9_init_80 : decode cX9_init 80 = .ok (.invokespecial 54, 3) := by decide +kernel
theorem dX9_init_83 : decode cX9_init 83 = .ok (.putfield 57, 3) := by decide +kernel
theorem dX9_init_86 : decode cX9_init 86 = .ok (.aload_n 0, 1) := by decide +kernel
theorem dX9_init_87 : decode cX9_init 87 = .ok (.new 52, 3) := by decide +kernel
theorem dX9_init_90 : decode cX9_init 90 = .ok (.dup, 1) := by decide +kernel
theorem dX9_init_91 : decode cX9_init 91 = .ok (.iconst 5, 1) := by decide +kernel
theorem dX9_init_92 : decode cX9_init 92 = .ok (.invokespecial 54, 3) := by decide +kernel
theorem dX9_init_95 : decode cX9_init 95 = .ok (.putfield 61, 3) := by decide +kernel
theorem dX9_init_98 : decode cX9_init 98 = .ok (.iconst 0, 1) := by decide +kernel
theorem dX9_init_99 : decode cX9_init 99 = .ok (.istore_n 1, 1) := by decide +kernel
theorem dX9_init_100 : decode cX9_init 100 = .ok (.iload_n 1, 1) := by decide +kernel
theorem dX9_init_101 : decode cX9_init 101 = .ok (.iconst 2, 1) := by decide +kernel
theorem dX9_init_102 : decode cX9_init 102 = .ok (.if_icmp .ge 22, 3) := by decide +kernel
theorem dX9_init_105 : decode cX9_init 105 = .ok (.aload_n 0, 1) := by decide +kernel
theorem dX9_init_106 : decode cX9_init 106 = .ok (.getfield 30, 3) := by decide +kernel
theorem dX9_init_109 : decode cX9_init 109 = .ok (.iload_n 1, 1) := by decide +kernel
theorem dX9_init_110 : decode cX9_init 110 = .ok (.new 28, 3) := by decide +kernel
theorem dX9_init_113 : decode cX9_init 113 = .ok (.dup, 1) := by decide +kernel
theorem dX9_init_114 : decode cX9_init 114 = .ok (.invokespecial 64, 3) := by decide +kernel
theorem dX9_init_117 : decode cX9_init 117 = .ok (.aastore, 1) := by decide +kernel
theorem dX9_init_118 : decode cX9_init 118 = .ok (.iinc 1 1, 3) := by decide +kernel
theorem dX9_init_121 : decode cX9_init 121 = .ok (.goto (-21), 3) := by decide +kernel
theorem dX9_init_124 : decode cX9_init 124 = .ok (.return_, 1) := by decide +kernel
theorem dX9_place_0 : decode cX9_place 0 = .ok (.iload_n 1, 1) := by decide +kernel
theorem dX9_place_1 : decode cX9_place 1 = .ok (.iconst 0, 1) := by decide +kernel
theorem dX9_place_2 : decode cX9_place 2 = .ok (.sipush 200, 3) := by decide +kernel
theorem dX9_place_5 : decode cX9_place 5 = .ok (.invokestatic 65, 3) := by decide +kernel
theorem dX9_place_8 : decode cX9_place 8 = .ok (.ifCond .eq 8, 3) := by decide +kernel
theorem dX9_place_11 : decode cX9_place 11 = .ok (.aload_n 0, 1) := by decide +kernel
theorem dX9_place_12 : decode cX9_place 12 = .ok (.invokevirtual 69, 3) := by decide +kernel
theorem dX9_place_15 : decode cX9_place 15 = .ok (.ireturn, 1) := by decide +kernel
theorem dX9_place_16 : decode cX9_place 16 = .ok (.aload_n 0, 1) := by decide +kernel
theorem dX9_place_17 : decode cX9_place 17 = .ok (.getfield 27, 3) := by decide +kernel
theorem dX9_place_20 : decode cX9_place 20 = .ok (.getfield 73, 3) := by decide +kernel
theorem dX9_place_23 : decode cX9_place 23 = .ok (.bipush 6, 2) := by decide +kernel
theorem dX9_place_25 : decode cX9_place 25 = .ok (.if_icmp .lt 8, 3) := by decide +kernel
theorem dX9_place_28 : decode cX9_place 28 = .ok (.aload_n 0, 1) := by decide +kernel
theorem dX9_place_29 : decode cX9_place 29 = .ok (.invokevirtual 77, 3) := by decide +kernel
theorem dX9_place_32 : decode cX9_place 32 = .ok (.ireturn, 1) := by decide +kernel
theorem dX9_place_33 : decode cX9_place 33 = .ok (.aload_n 0, 1) := by decide +kernel
theorem dX9_place_34 : decode cX9_place 34 = .ok (.getfield 27, 3) := by decide +kernel
theorem dX9_place_37 : decode cX9_place 37 = .ok (.getfield 80, 3) := by decide +kernel
theorem dX9_place_40 : decode cX9_place 40 = .ok (.aload_n 0, 1) := by decide +kernel
theorem dX9_place_41 : decode cX9_place 41 = .ok (.getfield 27, 3) := by decide +kernel
theorem dX9_place_44 : decode cX9_place 44 = .ok (.getfield 73, 3) := by decide +kernel
theorem dX9_place_47 : decode cX9_place 47 = .ok (.iload_n 1, 1) := by decide +kernel
theorem dX9_place_48 : decode cX9_place 48 = .ok (.iastore, 1) := by decide +kernel
theorem dX9_place_49 : decode cX9_place 49 = .ok (.aload_n 0, 1) := by decide +kernel
theorem dX9_place_50 : decode cX9_place 50 = .ok (.invokevirtual 84, 3) := by decide +kernel
theorem dX9_place_53 : decode cX9_place 53 = .ok (.aload_n 0, 1) := by decide +kernel
theorem dX9_place_54 : decode cX9_place 54 = .ok (.getfield 27, 3) := by decide +kernel
theorem dX9_place_57 : decode cX9_place 57 = .ok (.dup, 1) := by decide +kernel
theorem dX9_place_58 : decode cX9_place 58 = .ok (.getfield 73, 3) := by decide +kernel
theorem dX9_place_61 : decode cX9_place 61 = .ok (.dup_x1, 1) := by decide +kernel
theorem dX9_place_62 : decode cX9_place 62 = .ok (.iconst 1, 1) := by decide +kernel
theorem dX9_place_63 : decode cX9_place 63 = .ok (.iadd, 1) := by decide +kernel
theorem dX9_place_64 : decode cX9_place 64 = .ok (.putfield 73, 3) := by decide +kernel
theorem dX9_place_67 : decode cX9_place 67 = .ok (.ireturn, 1) := by decide +kernel
theorem dX9_rain_0 : decode cX9_rain 0 = .ok (.iload_n 1, 1) := by decide +kernel
theorem dX9_rain_1 : decode cX9_rain 1 = .ok (.iconst 0, 1) := by decide +kernel
theorem dX9_rain_2 : decode cX9_rain 2 = .ok (.bipush 9, 2) := by decide +kernel
theorem dX9_rain_4 : decode cX9_rain 4 = .ok (.invokestatic 65, 3) := by decide +kernel
theorem dX9_rain_7 : decode cX9_rain 7 = .ok (.ifCond .ne 13, 3) := by decide +kernel
theorem dX9_rain_10 : decode cX9_rain 10 = .ok (.iload_n 2, 1) := by decide +kernel
theorem dX9_rain_11 : decode cX9_rain 11 = .ok (.iconst 0, 1) := by decide +kernel
theorem dX9_rain_12 : decode cX9_rain 12 = .ok (.bipush 9, 2) := by decide +kernel
theorem dX9_rain_14 : decode cX9_rain 14 = .ok (.invokestatic 65, 3) := by decide +kernel
theorem dX9_rain_17 : decode cX9_rain 17 = .ok (.ifCond .eq 8, 3) := by decide +kernel
theorem dX9_rain_20 : decode cX9_rain 20 = .ok (.aload_n 0, 1) := by decide +kernel
theorem dX9_rain_21 : decode cX9_rain 21 = .ok (.invokevirtual 69, 3) := by decide +kernel
theorem dX9_rain_24 : decode cX9_rain 24 = .ok (.ireturn, 1) := by decide +kernel
theorem dX9_rain_25 : decode cX9_rain 25 = .ok (.aload_n 0, 1) := by decide +kernel
theorem dX9_rain_26 : decode cX9_rain 26 = .ok (.aload_n 0, 1) := by decide +kernel
theorem dX9_rain_27 : decode cX9_rain 27 = .ok (.getfield 27, 3) := by decide +kernel
theorem dX9_rain_30 : decode cX9_rain 30 = .ok (.getfield 87, 3) := by decide +kernel
theorem dX9_rain_33 : decode cX9_rain 33 = .ok (.iload_n 1, 1) := by decide +kernel
theorem dX9_rain_34 : decode cX9_rain 34 = .ok (.iload_n 2, 1) := by decide +kernel
theorem dX9_rain_35 : decode cX9_rain 35 = .ok (.invokevirtual 90, 3) := by decide +kernel
theorem dX9_rain_38 : decode cX9_rain 38 = .ok (.ireturn, 1) := by decide +kernel
theorem dX9_lot_0 : decode cX9_lot 0 = .ok (.iload_n 1, 1) := by decide +kernel
theorem dX9_lot_1 : decode cX9_lot 1 = .ok (.iconst 1, 1) := by decide +kernel
theorem dX9_lot_2 : decode cX9_lot 2 = .ok (.bipush 60, 2) := by decide +kernel
theorem dX9_lot_4 : decode cX9_lot 4 = .ok (.invokestatic 65, 3) := by decide +kernel
theorem dX9_lot_7 : decode cX9_lot 7 = .ok (.ifCond .eq 8, 3) := by decide +kernel
theorem dX9_lot_10 : decode cX9_lot 10 = .ok (.aload_n 0, 1) := by decide +kernel
theorem dX9_lot_11 : decode cX9_lot 11 = .ok (.invokevirtual 69, 3) := by decide +kernel
theorem dX9_lot_14 : decode cX9_lot 14 = .ok (.ireturn, 1) := by decide +kernel
theorem dX9_lot_15 : decode cX9_lot 15 = .ok (.aload_n 0, 1) := by decide +kernel
theorem dX9_lot_16 : decode cX9_lot 16 = .ok (.getfield 27, 3) := by decide +kernel
theorem dX9_lot_19 : decode cX9_lot 19 = .ok (.getfield 94, 3) := by decide +kernel
theorem dX9_lot_22 : decode cX9_lot 22 = .ok (.iconst 4, 1) := by decide +kernel
theorem dX9_lot_23 : decode cX9_lot 23 = .ok (.if_icmp .lt 8, 3) := by decide +kernel
theorem dX9_lot_26 : decode cX9_lot 26 = .ok (.aload_n 0, 1) := by decide +kernel
theorem dX9_lot_27 : decode cX9_lot 27 = .ok (.invokevirtual 77, 3) := by decide +kernel
theorem dX9_lot_30 : decode cX9_lot 30 = .ok (.ireturn, 1) := by decide +kernel
theorem dX9_lot_31 : decode cX9_lot 31 = .ok (.aload_n 0, 1) := by decide +kernel
theorem dX9_lot_32 : decode cX9_lot 32 = .ok (.getfield 27, 3) := by decide +kernel
theorem dX9_lot_35 : decode cX9_lot 35 = .ok (.getfield 97, 3) := by decide +kernel
theorem dX9_lot_38 : decode cX9_lot 38 = .ok (.aload_n 0, 1) := by decide +kernel
theorem dX9_lot_39 : decode cX9_lot 39 = .ok (.getfield 27, 3) := by decide +kernel
theorem dX9_lot_42 : decode cX9_lot 42 = .ok (.getfield 94, 3) := by decide +kernel
theorem dX9_lot_45 : decode cX9_lot 45 = .ok (.iload_n 1, 1) := by decide +kernel
theorem dX9_lot_46 : decode cX9_lot 46 = .ok (.iastore, 1) := by decide +kernel
theorem dX9_lot_47 : decode cX9_lot 47 = .ok (.aload_n 0, 1) := by decide +kernel
theorem dX9_lot_48 : decode cX9_lot 48 = .ok (.invokevirtual 84, 3) := by decide +kernel
theorem dX9_lot_51 : decode cX9_lot 51 = .ok (.aload_n 0, 1) := by decide +kernel
theorem dX9_lot_52 : decode cX9_lot 52 = .ok (.getfield 27, 3) := by decide +kernel
theorem dX9_lot_55 : decode cX9_lot 55 = .ok (.dup, 1) := by decide +kernel
theorem dX9_lot_56 : decode cX9_lot 56 = .ok (.getfield 94, 3) := by decide +kernel
theorem dX9_lot_59 : decode cX9_lot 59 = .ok (.dup_x1, 1) := by decide +kernel
theorem dX9_lot_60 : decode cX9_lot 60 = .ok (.iconst 1, 1) := by decide +kernel
theorem dX9_lot_61 : decode cX9_lot 61 = .ok (.iadd, 1) := by decide +kernel
theorem dX9_lot_62 : decode cX9_lot 62 = .ok (.putfield 94, 3) := by decide +kernel
theorem dX9_lot_65 : decode cX9_lot 65 = .ok (.ireturn, 1) := by decide +kernel
theorem dX9_put_0 : decode cX9_put 0 = .ok (.iload_n 1, 1) := by decide +kernel
theorem dX9_put_1 : decode cX9_put 1 = .ok (.iconst 0, 1) := by decide +kernel
theorem dX9_put_2 : decode cX9_put 2 = .ok (.iconst 1, 1) := by decide +kernel
theorem dX9_put_3 : decode cX9_put 3 = .ok (.invokestatic 65, 3) := by decide +kernel
theorem dX9_put_6 : decode cX9_put 6 = .ok (.ifCond .ne 21, 3) := by decide +kernel
theorem dX9_put_9 : decode cX9_put 9 = .ok (.iload_n 2, 1) := by decide +kernel
theorem dX9_put_10 : decode cX9_put 10 = .ok (.iload_n 1, 1) := by decide +kernel
theorem dX9_put_11 : decode cX9_put 11 = .ok (.ifCond .ne 7, 3) := by decide +kernel
theorem dX9_put_14 : decode cX9_put 14 = .ok (.iconst 0, 1) := by decide +kernel
theorem dX9_put_15 : decode cX9_put 15 = .ok (.goto 4, 3) := by decide +kernel
theorem dX9_put_18 : decode cX9_put 18 = .ok (.iconst 1, 1) := by decide +kernel
theorem dX9_put_19 : decode cX9_put 19 = .ok (.bipush 9, 2) := by decide +kernel
theorem dX9_put_21 : decode cX9_put 21 = .ok (.invokestatic 65, 3) := by decide +kernel
theorem dX9_put_24 : decode cX9_put 24 = .ok (.ifCond .eq 8, 3) := by decide +kernel
theorem dX9_put_27 : decode cX9_put 27 = .ok (.aload_n 0, 1) := by decide +kernel
theorem dX9_put_28 : decode cX9_put 28 = .ok (.invokevirtual 69, 3) := by decide +kernel
theorem dX9_put_31 : decode cX9_put 31 = .ok (.ireturn, 1) := by decide +kernel
theorem dX9_put_32 : decode cX9_put 32 = .ok (.aload_n 0, 1) := by decide +kernel
theorem dX9_put_33 : decode cX9_put 33 = .ok (.aload_n 0, 1) := by decide +kernel
theorem dX9_put_34 : decode cX9_put 34 = .ok (.getfield 27, 3) := by decide +kernel
theorem dX9_put_37 : decode cX9_put 37 = .ok (.getfield 100, 3) := by decide +kernel
theorem dX9_put_40 : decode cX9_put 40 = .ok (.iload_n 1, 1) := by decide +kernel
theorem dX9_put_41 : decode cX9_put 41 = .ok (.iload_n 2, 1) := by decide +kernel
theorem dX9_put_42 : decode cX9_put 42 = .ok (.invokevirtual 90, 3) := by decide +kernel
theorem dX9_put_45 : decode cX9_put 45 = .ok (.ireturn, 1) := by decide +kernel
theorem dX9_kind_0 : decode cX9_kind 0 = .ok (.iload_n 1, 1) := by decide +kernel
theorem dX9_kind_1 : decode cX9_kind 1 = .ok (.invokestatic 103, 3) := by decide +kernel
theorem dX9_kind_4 : decode cX9_kind 4 = .ok (.ifCond .ne 12, 3) := by decide +kernel
theorem dX9_kind_7 : decode cX9_kind 7 = .ok (.iload_n 2, 1) := by decide +kernel
theorem dX9_kind_8 : decode cX9_kind 8 = .ok (.iconst 0, 1) := by decide +kernel
theorem dX9_kind_9 : decode cX9_kind 9 = .ok (.iconst 1, 1) := by decide +kernel
theorem dX9_kind_10 : decode cX9_kind 10 = .ok (.invokestatic 65, 3) := by decide +kernel
theorem dX9_kind_13 : decode cX9_kind 13 = .ok (.ifCond .eq 8, 3) := by decide +kernel
theorem dX9_kind_16 : decode cX9_kind 16 = .ok (.aload_n 0, 1) := by decide +kernel
theorem dX9_kind_17 : decode cX9_kind 17 = .ok (.invokevirtual 69, 3) := by decide +kernel
theorem dX9_kind_20 : decode cX9_kind 20 = .ok (.ireturn, 1) := by decide +kernel
theorem dX9_kind_21 : decode cX9_kind 21 = .ok (.iload_n 2, 1) := by decide +kernel
theorem dX9_kind_22 : decode cX9_kind 22 = .ok (.ifCond .ne 17, 3) := by decide +kernel
theorem dX9_kind_25 : decode cX9_kind 25 = .ok (.iload_n 3, 1) := by decide +kernel
theorem dX9_kind_26 : decode cX9_kind 26 = .ok (.iconst 1, 1) := by decide +kernel
theorem dX9_kind_27 : decode cX9_kind 27 = .ok (.sipush 999, 3) := by decide +kernel
theorem dX9_kind_30 : decode cX9_kind 30 = .ok (.invokestatic 65, 3) := by decide +kernel
theorem dX9_kind_33 : decode cX9_kind 33 = .ok (.ifCond .eq 21, 3) := by decide +kernel
theorem dX9_kind_36 : decode cX9_kind 36 = .ok (.goto 13, 3) := by decide +kernel
theorem dX9_kind_39 : decode cX9_kind 39 = .ok (.iload_n 3, 1) := by decide +kernel
theorem dX9_kind_40 : decode cX9_kind 40 = .ok (.iconst 0, 1) := by decide +kernel
theorem dX9_kind_41 : decode cX9_kind 41 = .ok (.bipush 9, 2) := by decide +kernel
theorem dX9_kind_43 : decode cX9_kind 43 = .ok (.invokestatic 65, 3) := by decide +kernel
theorem dX9_kind_46 : decode cX9_kind 46 = .ok (.ifCond .eq 8, 3) := by decide +kernel
theorem dX9_kind_49 : decode cX9_kind 49 = .ok (.aload_n 0, 1) := by decide +kernel
theorem dX9_kind_50 : decode cX9_kind 50 = .ok (.invokevirtual 69, 3) := by decide +kernel
theorem dX9_kind_53 : decode cX9_kind 53 = .ok (.ireturn, 1) := by decide +kernel
theorem dX9_kind_54 : decode cX9_kind 54 = .ok (.aload_n 0, 1) := by decide +kernel
theorem dX9_kind_55 : decode cX9_kind 55 = .ok (.aload_n 0, 1) := by decide +kernel
theorem dX9_kind_56 : decode cX9_kind 56 = .ok (.getfield 27, 3) := by decide +kernel
theorem dX9_kind_59 : decode cX9_kind 59 = .ok (.getfield 107, 3) := by decide +kernel
theorem dX9_kind_62 : decode cX9_kind 62 = .ok (.iload_n 1, 1) := by decide +kernel
theorem dX9_kind_63 : decode cX9_kind 63 = .ok (.aaload, 1) := by decide +kernel
theorem dX9_kind_64 : decode cX9_kind 64 = .ok (.iload_n 2, 1) := by decide +kernel
theorem dX9_kind_65 : decode cX9_kind 65 = .ok (.iload_n 3, 1) := by decide +kernel
theorem dX9_kind_66 : decode cX9_kind 66 = .ok (.invokevirtual 90, 3) := by decide +kernel
theorem dX9_kind_69 : decode cX9_kind 69 = .ok (.ireturn, 1) := by decide +kernel
theorem dX9_prior_0 : decode cX9_prior 0 = .ok (.iload_n 1, 1) := by decide +kernel
theorem dX9_prior_1 : decode cX9_prior 1 = .ok (.invokestatic 111, 3) := by decide +kernel
theorem dX9_prior_4 : decode cX9_prior 4 = .ok (.ifCond .ne 13, 3) := by decide +kernel
theorem dX9_prior_7 : decode cX9_prior 7 = .ok (.iload_n 2, 1) := by decide +kernel
theorem dX9_prior_8 : decode cX9_prior 8 = .ok (.iconst 1, 1) := by decide +kernel
theorem dX9_prior_9 : decode cX9_prior 9 = .ok (.bipush 9, 2) := by decide +kernel
theorem dX9_prior_11 : decode cX9_prior 11 = .ok (.invokestatic 65, 3) := by decide +kernel
theorem dX9_prior_14 : decode cX9_prior 14 = .ok (.ifCond .eq 8, 3) := by decide +kernel
theorem dX9_prior_17 : decode cX9_prior 17 = .ok (.aload_n 0, 1) := by decide +kernel
theorem dX9_prior_18 : decode cX9_prior 18 = .ok (.invokevirtual 69, 3) := by decide +kernel
theorem dX9_prior_21 : decode cX9_prior 21 = .ok (.ireturn, 1) := by decide +kernel
theorem dX9_prior_22 : decode cX9_prior 22 = .ok (.aload_n 0, 1) := by decide +kernel
theorem dX9_prior_23 : decode cX9_prior 23 = .ok (.aload_n 0, 1) := by decide +kernel
theorem dX9_prior_24 : decode cX9_prior 24 = .ok (.getfield 27, 3) := by decide +kernel
theorem dX9_prior_27 : decode cX9_prior 27 = .ok (.getfield 114, 3) := by decide +kernel
theorem dX9_prior_30 : decode cX9_prior 30 = .ok (.iload_n 1, 1) := by decide +kernel
theorem dX9_prior_31 : decode cX9_prior 31 = .ok (.iload_n 2, 1) := by decide +kernel
theorem dX9_prior_32 : decode cX9_prior 32 = .ok (.invokevirtual 90, 3) := by decide +kernel
theorem dX9_prior_35 : decode cX9_prior 35 = .ok (.ireturn, 1) := by decide +kernel
theorem dX9_type_0 : decode cX9_type 0 = .ok (.iload_n 1, 1) := by decide +kernel
theorem dX9_type_1 : decode cX9_type 1 = .ok (.invokestatic 111, 3) := by decide +kernel
theorem dX9_type_4 : decode cX9_type 4 = .ok (.ifCond .ne 14, 3) := by decide +kernel
theorem dX9_type_7 : decode cX9_type 7 = .ok (.iload 4, 2) := by decide +kernel
theorem dX9_type_9 : decode cX9_type 9 = .ok (.iconst 1, 1) := by decide +kernel
theorem dX9_type_10 : decode cX9_type 10 = .ok (.bipush 8, 2) := by decide +kernel
theorem dX9_type_12 : decode cX9_type 12 = .ok (.invokestatic 65, 3) := by decide +kernel
theorem dX9_type_15 : decode cX9_type 15 = .ok (.ifCond .eq 8, 3) := by decide +kernel
theorem dX9_type_18 : decode cX9_type 18 = .ok (.aload_n 0, 1) := by decide +kernel
theorem dX9_type_19 : decode cX9_type 19 = .ok (.invokevirtual 69, 3) := by decide +kernel
theorem dX9_type_22 : decode cX9_type 22 = .ok (.ireturn, 1) := by decide +kernel
theorem dX9_type_23 : decode cX9_type 23 = .ok (.aload_n 0, 1) := by decide +kernel
theorem dX9_type_24 : decode cX9_type 24 = .ok (.getfield 27, 3) := by decide +kernel
theorem dX9_type_27 : decode cX9_type 27 = .ok (.getfield 117, 3) := by decide +kernel
theorem dX9_type_30 : decode cX9_type 30 = .ok (.iload_n 1, 1) := by decide +kernel
theorem dX9_type_31 : decode cX9_type 31 = .ok (.iaload, 1) := by decide +kernel
theorem dX9_type_32 : decode cX9_type 32 = .ok (.istore 5, 2) := by decide +kernel
theorem dX9_type_34 : decode cX9_type 34 = .ok (.iload 5, 2) := by decide +kernel
theorem dX9_type_36 : decode cX9_type 36 = .ok (.iload 4, 2) := by decide +kernel
theorem dX9_type_38 : decode cX9_type 38 = .ok (.iadd, 1) := by decide +kernel
theorem dX9_type_39 : decode cX9_type 39 = .ok (.bipush 120, 2) := by decide +kernel
theorem dX9_type_41 : decode cX9_type 41 = .ok (.if_icmp .le 8, 3) := by decide +kernel
theorem dX9_type_44 : decode cX9_type 44 = .ok (.aload_n 0, 1) := by decide +kernel
theorem dX9_type_45 : decode cX9_type 45 = .ok (.invokevirtual 77, 3) := by decide +kernel
theorem dX9_type_48 : decode cX9_type 48 = .ok (.ireturn, 1) := by decide +kernel
theorem dX9_type_49 : decode cX9_type 49 = .ok (.iconst 0, 1) := by decide +kernel
theorem dX9_type_50 : decode cX9_type 50 = .ok (.istore 6, 2) := by decide +kernel
theorem dX9_type_52 : decode cX9_type 52 = .ok (.iload 6, 2) := by decide +kernel
theorem dX9_type_54 : decode cX9_type 54 = .ok (.iload 4, 2) := by decide +kernel
theorem dX9_type_56 : decode cX9_type 56 = .ok (.if_icmp .ge 41, 3) := by decide +kernel
theorem dX9_type_59 : decode cX9_type 59 = .ok (.aload_n 0, 1) := by decide +kernel
theorem dX9_type_60 : decode cX9_type 60 = .ok (.getfield 27, 3) := by decide +kernel
theorem dX9_type_63 : decode cX9_type 63 = .ok (.getfield 120, 3) := by decide +kernel
theorem dX9_type_66 : decode cX9_type 66 = .ok (.iload_n 1, 1) := by decide +kernel
theorem dX9_type_67 : decode cX9_type 67 = .ok (.aaload, 1) := by decide +kernel
theorem dX9_type_68 : decode cX9_type 68 = .ok (.iload 5, 2) := by decide +kernel
theorem dX9_type_70 : decode cX9_type 70 = .ok (.iload 6, 2) := by decide +kernel
theorem dX9_type_72 : decode cX9_type 72 = .ok (.iadd, 1) := by decide +kernel
theorem dX9_type_73 : decode cX9_type 73 = .ok (.lload_n 2, 1) := by decide +kernel
theorem dX9_type_74 : decode cX9_type 74 = .ok (.bipush 8, 2) := by decide +kernel
theorem dX9_type_76 : decode cX9_type 76 = .ok (.iload 4, 2) := by decide +kernel
theorem dX9_type_78 : decode cX9_type 78 = .ok (.iconst 1, 1) := by decide +kernel
theorem dX9_type_79 : decode cX9_type 79 = .ok (.isub, 1) := by decide +kernel
theorem dX9_type_80 : decode cX9_type 80 = .ok (.iload 6, 2) := by decide +kernel
theorem dX9_type_82 : decode cX9_type 82 = .ok (.isub, 1) := by decide +kernel
theorem dX9_type_83 : decode cX9_type 83 = .ok (.imul, 1) := by decide +kernel
theorem dX9_type_84 : decode cX9_type 84 = .ok (.lshr, 1) := by decide +kernel
theorem dX9_type_85 : decode cX9_type 85 = .ok (.l2i, 1) := by decide +kernel
theorem dX9_type_86 : decode cX9_type 86 = .ok (.sipush 255, 3) := by decide +kernel
theorem dX9_type_89 : decode cX9_type 89 = .ok (.iand, 1) := by decide +kernel
theorem dX9_type_90 : decode cX9_type 90 = .ok (.iastore, 1) := by decide +kernel
theorem dX9_type_91 : decode cX9_type 91 = .ok (.iinc 6 1, 3) := by decide +kernel
theorem dX9_type_94 : decode cX9_type 94 = .ok (.goto (-42), 3) := by decide +kernel
theorem dX9_type_97 : decode cX9_type 97 = .ok (.aload_n 0, 1) := by decide +kernel
theorem dX9_type_98 : decode cX9_type 98 = .ok (.getfield 27, 3) := by decide +kernel
theorem dX9_type_101 : decode cX9_type 101 = .ok (.getfield 117, 3) := by decide +kernel
theorem dX9_type_104 : decode cX9_type 104 = .ok (.iload_n 1, 1) := by decide +kernel
theorem dX9_type_105 : decode cX9_type 105 = .ok (.iload 5, 2) := by decide +kernel
theorem dX9_type_107 : decode cX9_type 107 = .ok (.iload 4, 2) := by decide +kernel
theorem dX9_type_109 : decode cX9_type 109 = .ok (.iadd, 1) := by decide +kernel
theorem dX9_type_110 : decode cX9_type 110 = .ok (.iastore, 1) := by decide +kernel
theorem dX9_type_111 : decode cX9_type 111 = .ok (.aload_n 0, 1) := by decide +kernel
theorem dX9_type_112 : decode cX9_type 112 = .ok (.invokevirtual 84, 3) := by decide +kernel
theorem dX9_type_115 : decode cX9_type 115 = .ok (.iload 5, 2) := by decide +kernel
theorem dX9_type_117 : decode cX9_type 117 = .ok (.iload 4, 2) := by decide +kernel
theorem dX9_type_119 : decode cX9_type 119 = .ok (.iadd, 1) := by decide +kernel
theorem dX9_type_120 : decode cX9_type 120 = .ok (.ireturn, 1) := by decide +kernel
theorem dX9_clear_0 : decode cX9_clear 0 = .ok (.iload_n 1, 1) := by decide +kernel
theorem dX9_clear_1 : decode cX9_clear 1 = .ok (.invokestatic 111, 3) := by decide +kernel
theorem dX9_clear_4 : decode cX9_clear 4 = .ok (.ifCond .eq 8, 3) := by decide +kernel
theorem dX9_clear_7 : decode cX9_clear 7 = .ok (.aload_n 0, 1) := by decide +kernel
theorem dX9_clear_8 : decode cX9_clear 8 = .ok (.invokevirtual 69, 3) := by decide +kernel
theorem dX9_clear_11 : decode cX9_clear 11 = .ok (.ireturn, 1) := by decide +kernel
theorem dX9_clear_12 : decode cX9_clear 12 = .ok (.aload_n 0, 1) := by decide +kernel
theorem dX9_clear_13 : decode cX9_clear 13 = .ok (.aload_n 0, 1) := by decide +kernel
theorem dX9_clear_14 : decode cX9_clear 14 = .ok (.getfield 27, 3) := by decide +kernel
theorem dX9_clear_17 : decode cX9_clear 17 = .ok (.getfield 117, 3) := by decide +kernel
theorem dX9_clear_20 : decode cX9_clear 20 = .ok (.iload_n 1, 1) := by decide +kernel
theorem dX9_clear_21 : decode cX9_clear 21 = .ok (.iconst 0, 1) := by decide +kernel
theorem dX9_clear_22 : decode cX9_clear 22 = .ok (.invokevirtual 90, 3) := by decide +kernel
theorem dX9_clear_25 : decode cX9_clear 25 = .ok (.ireturn, 1) := by decide +kernel
theorem dX9_fault_0 : decode cX9_fault 0 = .ok (.iload_n 1, 1) := by decide +kernel
theorem dX9_fault_1 : decode cX9_fault 1 = .ok (.invokestatic 111, 3) := by decide +kernel
theorem dX9_fault_4 : decode cX9_fault 4 = .ok (.ifCond .eq 8, 3) := by decide +kernel
theorem dX9_fault_7 : decode cX9_fault 7 = .ok (.aload_n 0, 1) := by decide +kernel
theorem dX9_fault_8 : decode cX9_fault 8 = .ok (.invokevirtual 69, 3) := by decide +kernel
theorem dX9_fault_11 : decode cX9_fault 11 = .ok (.ireturn, 1) := by decide +kernel
theorem dX9_fault_12 : decode cX9_fault 12 = .ok (.aload_n 0, 1) := by decide +kernel
theorem dX9_fault_13 : decode cX9_fault 13 = .ok (.getfield 20, 3) := by decide +kernel
theorem dX9_fault_16 : decode cX9_fault 16 = .ok (.invokevirtual 123, 3) := by decide +kernel
theorem dX9_fault_19 : decode cX9_fault 19 = .ok (.aload_n 0, 1) := by decide +kernel
theorem dX9_fault_20 : decode cX9_fault 20 = .ok (.getfield 20, 3) := by decide +kernel
theorem dX9_fault_23 : decode cX9_fault 23 = .ok (.getfield 126, 3) := by decide +kernel
theorem dX9_fault_26 : decode cX9_fault 26 = .ok (.iload_n 1, 1) := by decide +kernel
theorem dX9_fault_27 : decode cX9_fault 27 = .ok (.aaload, 1) := by decide +kernel
theorem dX9_fault_28 : decode cX9_fault 28 = .ok (.getfield 130, 3) := by decide +kernel
theorem dX9_fault_31 : decode cX9_fault 31 = .ok (.ireturn, 1) := by decide +kernel
theorem dX9_sign_0 : decode cX9_sign 0 = .ok (.aload_n 0, 1) := by decide +kernel
theorem dX9_sign_1 : decode cX9_sign 1 = .ok (.iload_n 1, 1) := by decide +kernel
theorem dX9_sign_2 : decode cX9_sign 2 = .ok (.invokevirtual 135, 3) := by decide +kernel
theorem dX9_sign_5 : decode cX9_sign 5 = .ok (.ifCond .ne 31, 3) := by decide +kernel
theorem dX9_sign_8 : decode cX9_sign 8 = .ok (.iload_n 2, 1) := by decide +kernel
theorem dX9_sign_9 : decode cX9_sign 9 = .ok (.invokestatic 103, 3) := by decide +kernel
theorem dX9_sign_12 : decode cX9_sign 12 = .ok (.ifCond .ne 24, 3) := by decide +kernel
theorem dX9_sign_15 : decode cX9_sign 15 = .ok (.iload_n 3, 1) := by decide +kernel
theorem dX9_sign_16 : decode cX9_sign 16 = .ok (.iconst 0, 1) := by decide +kernel
theorem dX9_sign_17 : decode cX9_sign 17 = .ok (.bipush 9, 2) := by decide +kernel
theorem dX9_sign_19 : decode cX9_sign 19 = .ok (.invokestatic 65, 3) := by decide +kernel
theorem dX9_sign_22 : decode cX9_sign 22 = .ok (.ifCond .ne 14, 3) := by decide +kernel
theorem dX9_sign_25 : decode cX9_sign 25 = .ok (.iload 4, 2) := by decide +kernel
theorem dX9_sign_27 : decode cX9_sign 27 = .ok (.iconst 1, 1) := by decide +kernel
theorem dX9_sign_28 : decode cX9_sign 28 = .ok (.bipush 10, 2) := by decide +kernel
theorem dX9_sign_30 : decode cX9_sign 30 = .ok (.invokestatic 65, 3) := by decide +kernel
theorem dX9_sign_33 : decode cX9_sign 33 = .ok (.ifCond .eq 8, 3) := by decide +kernel
theorem dX9_sign_36 : decode cX9_sign 36 = .ok (.aload_n 0, 1) := by decide +kernel
theorem dX9_sign_37 : decode cX9_sign 37 = .ok (.invokevirtual 69, 3) := by decide +kernel
theorem dX9_sign_40 : decode cX9_sign 40 = .ok (.ireturn, 1) := by decide +kernel
theorem dX9_sign_41 : decode cX9_sign 41 = .ok (.aload_n 0, 1) := by decide +kernel
theorem dX9_sign_42 : decode cX9_sign 42 = .ok (.getfield 27, 3) := by decide +kernel
theorem dX9_sign_45 : decode cX9_sign 45 = .ok (.iload_n 1, 1) := by decide +kernel
theorem dX9_sign_46 : decode cX9_sign 46 = .ok (.iload_n 2, 1) := by decide +kernel
theorem dX9_sign_47 : decode cX9_sign 47 = .ok (.invokevirtual 138, 3) := by decide +kernel
theorem dX9_sign_50 : decode cX9_sign 50 = .ok (.ifCond .eq 8, 3) := by decide +kernel
theorem dX9_sign_53 : decode cX9_sign 53 = .ok (.aload_n 0, 1) := by decide +kernel
theorem dX9_sign_54 : decode cX9_sign 54 = .ok (.invokevirtual 69, 3) := by decide +kernel
theorem dX9_sign_57 : decode cX9_sign 57 = .ok (.ireturn, 1) := by decide +kernel
theorem dX9_sign_58 : decode cX9_sign 58 = .ok (.aload_n 0, 1) := by decide +kernel
theorem dX9_sign_59 : decode cX9_sign 59 = .ok (.getfield 27, 3) := by decide +kernel
theorem dX9_sign_62 : decode cX9_sign 62 = .ok (.getfield 142, 3) := by decide +kernel
theorem dX9_sign_65 : decode cX9_sign 65 = .ok (.bipush 6, 2) := by decide +kernel
theorem dX9_sign_67 : decode cX9_sign 67 = .ok (.if_icmp .lt 8, 3) := by decide +kernel
theorem dX9_sign_70 : decode cX9_sign 70 = .ok (.aload_n 0, 1) := by decide +kernel
theorem dX9_sign_71 : decode cX9_sign 71 = .ok (.invokevirtual 77, 3) := by decide +kernel
theorem dX9_sign_74 : decode cX9_sign 74 = .ok (.ireturn, 1) := by decide +kernel
theorem dX9_sign_75 : decode cX9_sign 75 = .ok (.aload_n 0, 1) := by decide +kernel
theorem dX9_sign_76 : decode cX9_sign 76 = .ok (.getfield 27, 3) := by decide +kernel
theorem dX9_sign_79 : decode cX9_sign 79 = .ok (.getfield 145, 3) := by decide +kernel
theorem dX9_sign_82 : decode cX9_sign 82 = .ok (.aload_n 0, 1) := by decide +kernel
theorem dX9_sign_83 : decode cX9_sign 83 = .ok (.getfield 27, 3) := by decide +kernel
theorem dX9_sign_86 : decode cX9_sign 86 = .ok (.getfield 142, 3) := by decide +kernel
theorem dX9_sign_89 : decode cX9_sign 89 = .ok (.aaload, 1) := by decide +kernel
theorem dX9_sign_90 : decode cX9_sign 90 = .ok (.astore 5, 2) := by decide +kernel
theorem dX9_sign_92 : decode cX9_sign 92 = .ok (.aload 5, 2) := by decide +kernel
theorem dX9_sign_94 : decode cX9_sign 94 = .ok (.iconst 0, 1) := by decide +kernel
theorem dX9_sign_95 : decode cX9_sign 95 = .ok (.iload_n 1, 1) := by decide +kernel
theorem dX9_sign_96 : decode cX9_sign 96 = .ok (.iastore, 1) := by decide +kernel
theorem dX9_sign_97 : decode cX9_sign 97 = .ok (.aload 5, 2) := by decide +kernel
theorem dX9_sign_99 : decode cX9_sign 99 = .ok (.iconst 1, 1) := by decide +kernel
theorem dX9_sign_100 : decode cX9_sign 100 = .ok (.iload_n 2, 1) := by decide +kernel
theorem dX9_sign_101 : decode cX9_sign 101 = .ok (.iastore, 1) := by decide +kernel
theorem dX9_sign_102 : decode cX9_sign 102 = .ok (.aload 5, 2) := by decide +kernel
theorem dX9_sign_104 : decode cX9_sign 104 = .ok (.iconst 2, 1) := by decide +kernel
theorem dX9_sign_105 : decode cX9_sign 105 = .ok (.iload_n 3, 1) := by decide +kernel
theorem dX9_sign_106 : decode cX9_sign 106 = .ok (.iastore, 1) := by decide +kernel
theorem dX9_sign_107 : decode cX9_sign 107 = .ok (.aload 5, 2) := by decide +kernel
theorem dX9_sign_109 : decode cX9_sign 109 = .ok (.iconst 3, 1) := by decide +kernel
theorem dX9_sign_110 : decode cX9_sign 110 = .ok (.iload 4, 2) := by decide +kernel
theorem dX9_sign_112 : decode cX9_sign 112 = .ok (.iastore, 1) := by decide +kernel
theorem dX9_sign_113 : decode cX9_sign 113 = .ok (.aload_n 0, 1) := by decide +kernel
theorem dX9_sign_114 : decode cX9_sign 114 = .ok (.invokevirtual 84, 3) := by decide +kernel
theorem dX9_sign_117 : decode cX9_sign 117 = .ok (.aload_n 0, 1) := by decide +kernel
theorem dX9_sign_118 : decode cX9_sign 118 = .ok (.getfield 27, 3) := by decide +kernel
theorem dX9_sign_121 : decode cX9_sign 121 = .ok (.dup, 1) := by decide +kernel
theorem dX9_sign_122 : decode cX9_sign 122 = .ok (.getfield 142, 3) := by decide +kernel
theorem dX9_sign_125 : decode cX9_sign 125 = .ok (.dup_x1, 1) := by decide +kernel
theorem dX9_sign_126 : decode cX9_sign 126 = .ok (.iconst 1, 1) := by decide +kernel
theorem dX9_sign_127 : decode cX9_sign 127 = .ok (.iadd, 1) := by decide +kernel
theorem dX9_sign_128 : decode cX9_sign 128 = .ok (.putfield 142, 3) := by decide +kernel
theorem dX9_sign_131 : decode cX9_sign 131 = .ok (.ireturn, 1) := by decide +kernel
theorem dX9_post_0 : decode cX9_post 0 = .ok (.iload_n 1, 1) := by decide +kernel
theorem dX9_post_1 : decode cX9_post 1 = .ok (.iconst (-1), 1) := by decide +kernel
theorem dX9_post_2 : decode cX9_post 2 = .ok (.if_icmp .eq 16, 3) := by decide +kernel
theorem dX9_post_5 : decode cX9_post 5 = .ok (.aload_n 0, 1) := by decide +kernel
theorem dX9_post_6 : decode cX9_post 6 = .ok (.iload_n 1, 1) := by decide +kernel
theorem dX9_post_7 : decode cX9_post 7 = .ok (.invokevirtual 135, 3) := by decide +kernel
theorem dX9_post_10 : decode cX9_post 10 = .ok (.ifCond .eq 8, 3) := by decide +kernel
theorem dX9_post_13 : decode cX9_post 13 = .ok (.aload_n 0, 1) := by decide +kernel
theorem dX9_post_14 : decode cX9_post 14 = .ok (.invokevirtual 69, 3) := by decide +kernel
theorem dX9_post_17 : decode cX9_post 17 = .ok (.ireturn, 1) := by decide +kernel
theorem dX9_post_18 : decode cX9_post 18 = .ok (.aload_n 0, 1) := by decide +kernel
theorem dX9_post_19 : decode cX9_post 19 = .ok (.getfield 27, 3) := by decide +kernel
theorem dX9_post_22 : decode cX9_post 22 = .ok (.getfield 148, 3) := by decide +kernel
theorem dX9_post_25 : decode cX9_post 25 = .ok (.iconst 0, 1) := by decide +kernel
theorem dX9_post_26 : decode cX9_post 26 = .ok (.iconst 1, 1) := by decide +kernel
theorem dX9_post_27 : decode cX9_post 27 = .ok (.iastore, 1) := by decide +kernel
theorem dX9_post_28 : decode cX9_post 28 = .ok (.aload_n 0, 1) := by decide +kernel
theorem dX9_post_29 : decode cX9_post 29 = .ok (.getfield 27, 3) := by decide +kernel
theorem dX9_post_32 : decode cX9_post 32 = .ok (.getfield 148, 3) := by decide +kernel
theorem dX9_post_35 : decode cX9_post 35 = .ok (.iconst 1, 1) := by decide +kernel
theorem dX9_post_36 : decode cX9_post 36 = .ok (.iload_n 1, 1) := by decide +kernel
theorem dX9_post_37 : decode cX9_post 37 = .ok (.iastore, 1) := by decide +kernel
theorem dX9_post_38 : decode cX9_post 38 = .ok (.aload_n 0, 1) := by decide +kernel
theorem dX9_post_39 : decode cX9_post 39 = .ok (.getfield 27, 3) := by decide +kernel
theorem dX9_post_42 : decode cX9_post 42 = .ok (.getfield 148, 3) := by decide +kernel
theorem dX9_post_45 : decode cX9_post 45 = .ok (.iconst 2, 1) := by decide +kernel
theorem dX9_post_46 : decode cX9_post 46 = .ok (.iload_n 2, 1) := by decide +kernel
theorem dX9_post_47 : decode cX9_post 47 = .ok (.ifCond .eq 7, 3) := by decide +kernel
theorem dX9_post_50 : decode cX9_post 50 = .ok (.iconst 1, 1) := by decide +kernel
theorem dX9_post_51 : decode cX9_post 51 = .ok (.goto 4, 3) := by decide +kernel
theorem dX9_post_54 : decode cX9_post 54 = .ok (.iconst 0, 1) := by decide +kernel
theorem dX9_post_55 : decode cX9_post 55 = .ok (.iastore, 1) := by decide +kernel
theorem dX9_post_56 : decode cX9_post 56 = .ok (.aload_n 0, 1) := by decide +kernel
theorem dX9_post_57 : decode cX9_post 57 = .ok (.invokevirtual 84, 3) := by decide +kernel
theorem dX9_post_60 : decode cX9_post 60 = .ok (.iconst 1, 1) := by decide +kernel
theorem dX9_post_61 : decode cX9_post 61 = .ok (.ireturn, 1) := by decide +kernel
theorem dX9_teller_0 : decode cX9_teller 0 = .ok (.iload_n 1, 1) := by decide +kernel
theorem dX9_teller_1 : decode cX9_teller 1 = .ok (.iconst 0, 1) := by decide +kernel
theorem dX9_teller_2 : decode cX9_teller 2 = .ok (.iconst 5, 1) := by decide +kernel
theorem dX9_teller_3 : decode cX9_teller 3 = .ok (.invokestatic 65, 3) := by decide +kernel
theorem dX9_teller_6 : decode cX9_teller 6 = .ok (.ifCond .ne 27, 3) := by decide +kernel
theorem dX9_teller_9 : decode cX9_teller 9 = .ok (.aload_n 0, 1) := by decide +kernel
theorem dX9_teller_10 : decode cX9_teller 10 = .ok (.iload_n 2, 1) := by decide +kernel
theorem dX9_teller_11 : decode cX9_teller 11 = .ok (.invokevirtual 151, 3) := by decide +kernel
theorem dX9_teller_14 : decode cX9_teller 14 = .ok (.ifCond .ne 19, 3) := by decide +kernel
theorem dX9_teller_17 : decode cX9_teller 17 = .ok (.iload_n 3, 1) := by decide +kernel
theorem dX9_teller_18 : decode cX9_teller 18 = .ok (.invokestatic 154, 3) := by decide +kernel
theorem dX9_teller_21 : decode cX9_teller 21 = .ok (.ifCond .ne 12, 3) := by decide +kernel
theorem dX9_teller_24 : decode cX9_teller 24 = .ok (.aload_n 0, 1) := by decide +kernel
theorem dX9_teller_25 : decode cX9_teller 25 = .ok (.iload 4, 2) := by decide +kernel
theorem dX9_teller_27 : decode cX9_teller 27 = .ok (.invokevirtual 157, 3) := by decide +kernel
theorem dX9_teller_30 : decode cX9_teller 30 = .ok (.ifCond .eq 8, 3) := by decide +kernel
theorem dX9_teller_33 : decode cX9_teller 33 = .ok (.aload_n 0, 1) := by decide +kernel
theorem dX9_teller_34 : decode cX9_teller 34 = .ok (.invokevirtual 69, 3) := by decide +kernel
theorem dX9_teller_37 : decode cX9_teller 37 = .ok (.ireturn, 1) := by decide +kernel
theorem dX9_teller_38 : decode cX9_teller 38 = .ok (.iload 5, 2) := by decide +kernel
theorem dX9_teller_40 : decode cX9_teller 40 = .ok (.iconst 1, 1) := by decide +kernel
theorem dX9_teller_41 : decode cX9_teller 41 = .ok (.bipush 9, 2) := by decide +kernel
theorem dX9_teller_43 : decode cX9_teller 43 = .ok (.invokestatic 65, 3) := by decide +kernel
theorem dX9_teller_46 : decode cX9_teller 46 = .ok (.ifCond .eq 8, 3) := by decide +kernel
theorem dX9_teller_49 : decode cX9_teller 49 = .ok (.aload_n 0, 1) := by decide +kernel
theorem dX9_teller_50 : decode cX9_teller 50 = .ok (.invokevirtual 69, 3) := by decide +kernel
theorem dX9_teller_53 : decode cX9_teller 53 = .ok (.ireturn, 1) := by decide +kernel
theorem dX9_teller_54 : decode cX9_teller 54 = .ok (.aload_n 0, 1) := by decide +kernel
theorem dX9_teller_55 : decode cX9_teller 55 = .ok (.getfield 27, 3) := by decide +kernel
theorem dX9_teller_58 : decode cX9_teller 58 = .ok (.getfield 160, 3) := by decide +kernel
theorem dX9_teller_61 : decode cX9_teller 61 = .ok (.bipush 6, 2) := by decide +kernel
theorem dX9_teller_63 : decode cX9_teller 63 = .ok (.if_icmp .lt 8, 3) := by decide +kernel
theorem dX9_teller_66 : decode cX9_teller 66 = .ok (.aload_n 0, 1) := by decide +kernel
theorem dX9_teller_67 : decode cX9_teller 67 = .ok (.invokevirtual 77, 3) := by decide +kernel
theorem dX9_teller_70 : decode cX9_teller 70 = .ok (.ireturn, 1) := by decide +kernel
theorem dX9_teller_71 : decode cX9_teller 71 = .ok (.aload_n 0, 1) := by decide +kernel
theorem dX9_teller_72 : decode cX9_teller 72 = .ok (.getfield 27, 3) := by decide +kernel
theorem dX9_teller_75 : decode cX9_teller 75 = .ok (.getfield 163, 3) := by decide +kernel
theorem dX9_teller_78 : decode cX9_teller 78 = .ok (.aload_n 0, 1) := by decide +kernel
theorem dX9_teller_79 : decode cX9_teller 79 = .ok (.getfield 27, 3) := by decide +kernel
theorem dX9_teller_82 : decode cX9_teller 82 = .ok (.getfield 160, 3) := by decide +kernel
theorem dX9_teller_85 : decode cX9_teller 85 = .ok (.aaload, 1) := by decide +kernel
theorem dX9_teller_86 : decode cX9_teller 86 = .ok (.astore 6, 2) := by decide +kernel
theorem dX9_teller_88 : decode cX9_teller 88 = .ok (.aload 6, 2) := by decide +kernel
theorem dX9_teller_90 : decode cX9_teller 90 = .ok (.iconst 0, 1) := by decide +kernel
theorem dX9_teller_91 : decode cX9_teller 91 = .ok (.iload_n 1, 1) := by decide +kernel
theorem dX9_teller_92 : decode cX9_teller 92 = .ok (.iastore, 1) := by decide +kernel
theorem dX9_teller_93 : decode cX9_teller 93 = .ok (.aload 6, 2) := by decide +kernel
theorem dX9_teller_95 : decode cX9_teller 95 = .ok (.iconst 1, 1) := by decide +kernel
theorem dX9_teller_96 : decode cX9_teller 96 = .ok (.iload_n 2, 1) := by decide +kernel
theorem dX9_teller_97 : decode cX9_teller 97 = .ok (.iastore, 1) := by decide +kernel
theorem dX9_teller_98 : decode cX9_teller 98 = .ok (.aload 6, 2) := by decide +kernel
theorem dX9_teller_100 : decode cX9_teller 100 = .ok (.iconst 2, 1) := by decide +kernel
theorem dX9_teller_101 : decode cX9_teller 101 = .ok (.iload_n 3, 1) := by decide +kernel
theorem dX9_teller_102 : decode cX9_teller 102 = .ok (.iastore, 1) := by decide +kernel
theorem dX9_teller_103 : decode cX9_teller 103 = .ok (.aload 6, 2) := by decide +kernel
theorem dX9_teller_105 : decode cX9_teller 105 = .ok (.iconst 3, 1) := by decide +kernel
theorem dX9_teller_106 : decode cX9_teller 106 = .ok (.iload 4, 2) := by decide +kernel
theorem dX9_teller_108 : decode cX9_teller 108 = .ok (.iastore, 1) := by decide +kernel
theorem dX9_teller_109 : decode cX9_teller 109 = .ok (.aload 6, 2) := by decide +kernel
theorem dX9_teller_111 : decode cX9_teller 111 = .ok (.iconst 4, 1) := by decide +kernel
theorem dX9_teller_112 : decode cX9_teller 112 = .ok (.iload 5, 2) := by decide +kernel
theorem dX9_teller_114 : decode cX9_teller 114 = .ok (.iastore, 1) := by decide +kernel
theorem dX9_teller_115 : decode cX9_teller 115 = .ok (.aload_n 0, 1) := by decide +kernel
theorem dX9_teller_116 : decode cX9_teller 116 = .ok (.invokevirtual 84, 3) := by decide +kernel
theorem dX9_teller_119 : decode cX9_teller 119 = .ok (.aload_n 0, 1) := by decide +kernel
theorem dX9_teller_120 : decode cX9_teller 120 = .ok (.getfield 27, 3) := by decide +kernel
theorem dX9_teller_123 : decode cX9_teller 123 = .ok (.dup, 1) := by decide +kernel
theorem dX9_teller_124 : decode cX9_teller 124 = .ok (.getfield 160, 3) := by decide +kernel
theorem dX9_teller_127 : decode cX9_teller 127 = .ok (.dup_x1, 1) := by decide +kernel
theorem dX9_teller_128 : decode cX9_teller 128 = .ok (.iconst 1, 1) := by decide +kernel
theorem dX9_teller_129 : decode cX9_teller 129 = .ok (.iadd, 1) := by decide +kernel
theorem dX9_teller_130 : decode cX9_teller 130 = .ok (.putfield 160, 3) := by decide +kernel
theorem dX9_teller_133 : decode cX9_teller 133 = .ok (.ireturn, 1) := by decide +kernel
theorem dX9_at_0 : decode cX9_at 0 = .ok (.iload_n 1, 1) := by decide +kernel
theorem dX9_at_1 : decode cX9_at 1 = .ok (.invokestatic 111, 3) := by decide +kernel
theorem dX9_at_4 : decode cX9_at 4 = .ok (.ifCond .ne 10, 3) := by decide +kernel
theorem dX9_at_7 : decode cX9_at 7 = .ok (.iload_n 2, 1) := by decide +kernel
theorem dX9_at_8 : decode cX9_at 8 = .ok (.invokestatic 154, 3) := by decide +kernel
theorem dX9_at_11 : decode cX9_at 11 = .ok (.ifCond .eq 8, 3) := by decide +kernel
theorem dX9_at_14 : decode cX9_at 14 = .ok (.aload_n 0, 1) := by decide +kernel
theorem dX9_at_15 : decode cX9_at 15 = .ok (.invokevirtual 69, 3) := by decide +kernel
theorem dX9_at_18 : decode cX9_at 18 = .ok (.ireturn, 1) := by decide +kernel
theorem dX9_at_19 : decode cX9_at 19 = .ok (.aload_n 0, 1) := by decide +kernel
theorem dX9_at_20 : decode cX9_at 20 = .ok (.getfield 27, 3) := by decide +kernel
theorem dX9_at_23 : decode cX9_at 23 = .ok (.getfield 73, 3) := by decide +kernel
theorem dX9_at_26 : decode cX9_at 26 = .ok (.ifCond .eq 11, 3) := by decide +kernel
theorem dX9_at_29 : decode cX9_at 29 = .ok (.aload_n 0, 1) := by decide +kernel
theorem dX9_at_30 : decode cX9_at 30 = .ok (.iload_n 1, 1) := by decide +kernel
theorem dX9_at_31 : decode cX9_at 31 = .ok (.invokevirtual 166, 3) := by decide +kernel
theorem dX9_at_34 : decode cX9_at 34 = .ok (.ifCond .eq 8, 3) := by decide +kernel
theorem dX9_at_37 : decode cX9_at 37 = .ok (.aload_n 0, 1) := by decide +kernel
theorem dX9_at_38 : decode cX9_at 38 = .ok (.invokevirtual 169, 3) := by decide +kernel
theorem dX9_at_41 : decode cX9_at 41 = .ok (.ireturn, 1) := by decide +kernel
theorem dX9_at_42 : decode cX9_at 42 = .ok (.aload_n 0, 1) := by decide +kernel
theorem dX9_at_43 : decode cX9_at 43 = .ok (.getfield 20, 3) := by decide +kernel
theorem dX9_at_46 : decode cX9_at 46 = .ok (.getfield 126, 3) := by decide +kernel
theorem dX9_at_49 : decode cX9_at 49 = .ok (.iload_n 1, 1) := by decide +kernel
theorem dX9_at_50 : decode cX9_at 50 = .ok (.aaload, 1) := by decide +kernel
theorem dX9_at_51 : decode cX9_at 51 = .ok (.getfield 172, 3) := by decide +kernel
theorem dX9_at_54 : decode cX9_at 54 = .ok (.iload_n 2, 1) := by decide +kernel
theorem dX9_at_55 : decode cX9_at 55 = .ok (.iaload, 1) := by decide +kernel
theorem dX9_at_56 : decode cX9_at 56 = .ok (.ireturn, 1) := by decide +kernel
theorem dX9_must_0 : decode cX9_must 0 = .ok (.iload_n 1, 1) := by decide +kernel
theorem dX9_must_1 : decode cX9_must 1 = .ok (.invokestatic 111, 3) := by decide +kernel
theorem dX9_must_4 : decode cX9_must 4 = .ok (.ifCond .ne 18, 3) := by decide +kernel
theorem dX9_must_7 : decode cX9_must 7 = .ok (.aload_n 0, 1) := by decide +kernel
theorem dX9_must_8 : decode cX9_must 8 = .ok (.iload_n 2, 1) := by decide +kernel
theorem dX9_must_9 : decode cX9_must 9 = .ok (.invokevirtual 135, 3) := by decide +kernel
theorem dX9_must_12 : decode cX9_must 12 = .ok (.ifCond .ne 10, 3) := by decide +kernel
theorem dX9_must_15 : decode cX9_must 15 = .ok (.iload_n 3, 1) := by decide +kernel
theorem dX9_must_16 : decode cX9_must 16 = .ok (.invokestatic 103, 3) := by decide +kernel
theorem dX9_must_19 : decode cX9_must 19 = .ok (.ifCond .eq 8, 3) := by decide +kernel
theorem dX9_must_22 : decode cX9_must 22 = .ok (.aload_n 0, 1) := by decide +kernel
theorem dX9_must_23 : decode cX9_must 23 = .ok (.invokevirtual 69, 3) := by decide +kernel
theorem dX9_must_26 : decode cX9_must 26 = .ok (.ireturn, 1) := by decide +kernel
theorem dX9_must_27 : decode cX9_must 27 = .ok (.aload_n 0, 1) := by decide +kernel
theorem dX9_must_28 : decode cX9_must 28 = .ok (.iload_n 1, 1) := by decide +kernel
theorem dX9_must_29 : decode cX9_must 29 = .ok (.invokevirtual 166, 3) := by decide +kernel
theorem dX9_must_32 : decode cX9_must 32 = .ok (.ifCond .eq 8, 3) := by decide +kernel
theorem dX9_must_35 : decode cX9_must 35 = .ok (.aload_n 0, 1) := by decide +kernel
theorem dX9_must_36 : decode cX9_must 36 = .ok (.invokevirtual 169, 3) := by decide +kernel
theorem dX9_must_39 : decode cX9_must 39 = .ok (.ireturn, 1) := by decide +kernel
theorem dX9_must_40 : decode cX9_must 40 = .ok (.aload_n 0, 1) := by decide +kernel
theorem dX9_must_41 : decode cX9_must 41 = .ok (.getfield 20, 3) := by decide +kernel
theorem dX9_must_44 : decode cX9_must 44 = .ok (.iload_n 1, 1) := by decide +kernel
theorem dX9_must_45 : decode cX9_must 45 = .ok (.invokevirtual 175, 3) := by decide +kernel
theorem dX9_must_48 : decode cX9_must 48 = .ok (.aload_n 0, 1) := by decide +kernel
theorem dX9_must_49 : decode cX9_must 49 = .ok (.getfield 20, 3) := by decide +kernel
theorem dX9_must_52 : decode cX9_must 52 = .ok (.iload_n 2, 1) := by decide +kernel
theorem dX9_must_53 : decode cX9_must 53 = .ok (.iload_n 3, 1) := by decide +kernel
theorem dX9_must_54 : decode cX9_must 54 = .ok (.invokevirtual 178, 3) := by decide +kernel
theorem dX9_must_57 : decode cX9_must 57 = .ok (.ireturn, 1) := by decide +kernel
theorem dX9_hunger_0 : decode cX9_hunger 0 = .ok (.iload_n 1, 1) := by decide +kernel
theorem dX9_hunger_1 : decode cX9_hunger 1 = .ok (.invokestatic 111, 3) := by decide +kernel
theorem dX9_hunger_4 : decode cX9_hunger 4 = .ok (.ifCond .eq 8, 3) := by decide +kernel
theorem dX9_hunger_7 : decode cX9_hunger 7 = .ok (.aload_n 0, 1) := by decide +kernel
theorem dX9_hunger_8 : decode cX9_hunger 8 = .ok (.invokevirtual 69, 3) := by decide +kernel
theorem dX9_hunger_11 : decode cX9_hunger 11 = .ok (.ireturn, 1) := by decide +kernel
theorem dX9_hunger_12 : decode cX9_hunger 12 = .ok (.aload_n 0, 1) := by decide +kernel
theorem dX9_hunger_13 : decode cX9_hunger 13 = .ok (.getfield 27, 3) := by decide +kernel
theorem dX9_hunger_16 : decode cX9_hunger 16 = .ok (.getfield 73, 3) := by decide +kernel
theorem dX9_hunger_19 : decode cX9_hunger 19 = .ok (.ifCond .eq 11, 3) := by decide +kernel
theorem dX9_hunger_22 : decode cX9_hunger 22 = .ok (.aload_n 0, 1) := by decide +kernel
theorem dX9_hunger_23 : decode cX9_hunger 23 = .ok (.iload_n 1, 1) := by decide +kernel
theorem dX9_hunger_24 : decode cX9_hunger 24 = .ok (.invokevirtual 166, 3) := by decide +kernel
theorem dX9_hunger_27 : decode cX9_hunger 27 = .ok (.ifCond .eq 8, 3) := by decide +kernel
theorem dX9_hunger_30 : decode cX9_hunger 30 = .ok (.aload_n 0, 1) := by decide +kernel
theorem dX9_hunger_31 : decode cX9_hunger 31 = .ok (.invokevirtual 169, 3) := by decide +kernel
theorem dX9_hunger_34 : decode cX9_hunger 34 = .ok (.ireturn, 1) := by decide +kernel
theorem dX9_hunger_35 : decode cX9_hunger 35 = .ok (.aload_n 0, 1) := by decide +kernel
theorem dX9_hunger_36 : decode cX9_hunger 36 = .ok (.getfield 20, 3) := by decide +kernel
theorem dX9_hunger_39 : decode cX9_hunger 39 = .ok (.iload_n 1, 1) := by decide +kernel
theorem dX9_hunger_40 : decode cX9_hunger 40 = .ok (.invokevirtual 175, 3) := by decide +kernel
theorem dX9_hunger_43 : decode cX9_hunger 43 = .ok (.aload_n 0, 1) := by decide +kernel
theorem dX9_hunger_44 : decode cX9_hunger 44 = .ok (.getfield 20, 3) := by decide +kernel
theorem dX9_hunger_47 : decode cX9_hunger 47 = .ok (.invokevirtual 182, 3) := by decide +kernel
theorem dX9_hunger_50 : decode cX9_hunger 50 = .ok (.ireturn, 1) := by decide +kernel
theorem dX9_odds_0 : decode cX9_odds 0 = .ok (.aload_n 0, 1) := by decide +kernel
theorem dX9_odds_1 : decode cX9_odds 1 = .ok (.iload_n 1, 1) := by decide +kernel
theorem dX9_odds_2 : decode cX9_odds 2 = .ok (.invokevirtual 151, 3) := by decide +kernel
theorem dX9_odds_5 : decode cX9_odds 5 = .ok (.ifCond .ne 10, 3) := by decide +kernel
theorem dX9_odds_8 : decode cX9_odds 8 = .ok (.iload_n 2, 1) := by decide +kernel
theorem dX9_odds_9 : decode cX9_odds 9 = .ok (.invokestatic 111, 3) := by decide +kernel
theorem dX9_odds_12 : decode cX9_odds 12 = .ok (.ifCond .eq 8, 3) := by decide +kernel
theorem dX9_odds_15 : decode cX9_odds 15 = .ok (.aload_n 0, 1) := by decide +kernel
theorem dX9_odds_16 : decode cX9_odds 16 = .ok (.invokevirtual 69, 3) := by decide +kernel
theorem dX9_odds_19 : decode cX9_odds 19 = .ok (.ireturn, 1) := by decide +kernel
theorem dX9_odds_20 : decode cX9_odds 20 = .ok (.aload_n 0, 1) := by decide +kernel
theorem dX9_odds_21 : decode cX9_odds 21 = .ok (.invokevirtual 185, 3) := by decide +kernel
theorem dX9_odds_24 : decode cX9_odds 24 = .ok (.ifCond .eq 8, 3) := by decide +kernel
theorem dX9_odds_27 : decode cX9_odds 27 = .ok (.aload_n 0, 1) := by decide +kernel
theorem dX9_odds_28 : decode cX9_odds 28 = .ok (.invokevirtual 169, 3) := by decide +kernel
theorem dX9_odds_31 : decode cX9_odds 31 = .ok (.ireturn, 1) := by decide +kernel
theorem dX9_odds_32 : decode cX9_odds 32 = .ok (.aload_n 0, 1) := by decide +kernel
theorem dX9_odds_33 : decode cX9_odds 33 = .ok (.aload_n 0, 1) := by decide +kernel
theorem dX9_odds_34 : decode cX9_odds 34 = .ok (.getfield 10, 3) := by decide +kernel
theorem dX9_odds_37 : decode cX9_odds 37 = .ok (.iload_n 1, 1) := by decide +kernel
theorem dX9_odds_38 : decode cX9_odds 38 = .ok (.iload_n 2, 1) := by decide +kernel
theorem dX9_odds_39 : decode cX9_odds 39 = .ok (.invokevirtual 189, 3) := by decide +kernel
theorem dX9_odds_42 : decode cX9_odds 42 = .ok (.invokevirtual 193, 3) := by decide +kernel
theorem dX9_odds_45 : decode cX9_odds 45 = .ok (.ireturn, 1) := by decide +kernel
theorem dX9_all_0 : decode cX9_all 0 = .ok (.iload_n 1, 1) := by decide +kernel
theorem dX9_all_1 : decode cX9_all 1 = .ok (.invokestatic 111, 3) := by decide +kernel
theorem dX9_all_4 : decode cX9_all 4 = .ok (.ifCond .eq 8, 3) := by decide +kernel
theorem dX9_all_7 : decode cX9_all 7 = .ok (.aload_n 0, 1) := by decide +kernel
theorem dX9_all_8 : decode cX9_all 8 = .ok (.invokevirtual 69, 3) := by decide +kernel
theorem dX9_all_11 : decode cX9_all 11 = .ok (.ireturn, 1) := by decide +kernel
theorem dX9_all_12 : decode cX9_all 12 = .ok (.aload_n 0, 1) := by decide +kernel
theorem dX9_all_13 : decode cX9_all 13 = .ok (.invokevirtual 185, 3) := by decide +kernel
theorem dX9_all_16 : decode cX9_all 16 = .ok (.ifCond .eq 8, 3) := by decide +kernel
theorem dX9_all_19 : decode cX9_all 19 = .ok (.aload_n 0, 1) := by decide +kernel
theorem dX9_all_20 : decode cX9_all 20 = .ok (.invokevirtual 169, 3) := by decide +kernel
theorem dX9_all_23 : decode cX9_all 23 = .ok (.ireturn, 1) := by decide +kernel
theorem dX9_all_24 : decode cX9_all 24 = .ok (.aload_n 0, 1) := by decide +kernel
theorem dX9_all_25 : decode cX9_all 25 = .ok (.aload_n 0, 1) := by decide +kernel
theorem dX9_all_26 : decode cX9_all 26 = .ok (.getfield 10, 3) := by decide +kernel
theorem dX9_all_29 : decode cX9_all 29 = .ok (.getfield 197, 3) := by decide +kernel
theorem dX9_all_32 : decode cX9_all 32 = .ok (.iload_n 1, 1) := by decide +kernel
theorem dX9_all_33 : decode cX9_all 33 = .ok (.aaload, 1) := by decide +kernel
theorem dX9_all_34 : decode cX9_all 34 = .ok (.invokevirtual 193, 3) := by decide +kernel
theorem dX9_all_37 : decode cX9_all 37 = .ok (.ireturn, 1) := by decide +kernel
theorem dX9_where_0 : decode cX9_where 0 = .ok (.aload_n 0, 1) := by decide +kernel
theorem dX9_where_1 : decode cX9_where 1 = .ok (.iload_n 1, 1) := by decide +kernel
theorem dX9_where_2 : decode cX9_where 2 = .ok (.invokevirtual 151, 3) := by decide +kernel
theorem dX9_where_5 : decode cX9_where 5 = .ok (.ifCond .ne 18, 3) := by decide +kernel
theorem dX9_where_8 : decode cX9_where 8 = .ok (.iload_n 2, 1) := by decide +kernel
theorem dX9_where_9 : decode cX9_where 9 = .ok (.invokestatic 154, 3) := by decide +kernel
theorem dX9_where_12 : decode cX9_where 12 = .ok (.ifCond .ne 11, 3) := by decide +kernel
theorem dX9_where_15 : decode cX9_where 15 = .ok (.aload_n 0, 1) := by decide +kernel
theorem dX9_where_16 : decode cX9_where 16 = .ok (.iload_n 3, 1) := by decide +kernel
theorem dX9_where_17 : decode cX9_where 17 = .ok (.invokevirtual 157, 3) := by decide +kernel
theorem dX9_where_20 : decode cX9_where 20 = .ok (.ifCond .eq 8, 3) := by decide +kernel
theorem dX9_where_23 : decode cX9_where 23 = .ok (.aload_n 0, 1) := by decide +kernel
theorem dX9_where_24 : decode cX9_where 24 = .ok (.invokevirtual 69, 3) := by decide +kernel
theorem dX9_where_27 : decode cX9_where 27 = .ok (.ireturn, 1) := by decide +kernel
theorem dX9_where_28 : decode cX9_where 28 = .ok (.aload_n 0, 1) := by decide +kernel
theorem dX9_where_29 : decode cX9_where 29 = .ok (.invokevirtual 185, 3) := by decide +kernel
theorem dX9_where_32 : decode cX9_where 32 = .ok (.ifCond .eq 8, 3) := by decide +kernel
theorem dX9_where_35 : decode cX9_where 35 = .ok (.aload_n 0, 1) := by decide +kernel
theorem dX9_where_36 : decode cX9_where 36 = .ok (.invokevirtual 169, 3) := by decide +kernel
theorem dX9_where_39 : decode cX9_where 39 = .ok (.ireturn, 1) := by decide +kernel
theorem dX9_where_40 : decode cX9_where 40 = .ok (.aload_n 0, 1) := by decide +kernel
theorem dX9_where_41 : decode cX9_where 41 = .ok (.aload_n 0, 1) := by decide +kernel
theorem dX9_where_42 : decode cX9_where 42 = .ok (.getfield 10, 3) := by decide +kernel
theorem dX9_where_45 : decode cX9_where 45 = .ok (.iload_n 1, 1) := by decide +kernel
theorem dX9_where_46 : decode cX9_where 46 = .ok (.iload_n 2, 1) := by decide +kernel
theorem dX9_where_47 : decode cX9_where 47 = .ok (.iload_n 3, 1) := by decide +kernel
theorem dX9_where_48 : decode cX9_where 48 = .ok (.invokevirtual 201, 3) := by decide +kernel
theorem dX9_where_51 : decode cX9_where 51 = .ok (.invokevirtual 193, 3) := by decide +kernel
theorem dX9_where_54 : decode cX9_where 54 = .ok (.ireturn, 1) := by decide +kernel
theorem dX9_so_0 : decode cX9_so 0 = .ok (.iload_n 1, 1) := by decide +kernel
theorem dX9_so_1 : decode cX9_so 1 = .ok (.iconst 0, 1) := by decide +kernel
theorem dX9_so_2 : decode cX9_so 2 = .ok (.aload_n 0, 1) := by decide +kernel
theorem dX9_so_3 : decode cX9_so 3 = .ok (.getfield 27, 3) := by decide +kernel
theorem dX9_so_6 : decode cX9_so 6 = .ok (.getfield 160, 3) := by decide +kernel
theorem dX9_so_9 : decode cX9_so 9 = .ok (.iconst 1, 1) := by decide +kernel
theorem dX9_so_10 : decode cX9_so 10 = .ok (.isub, 1) := by decide +kernel
theorem dX9_so_11 : decode cX9_so 11 = .ok (.invokestatic 65, 3) := by decide +kernel
theorem dX9_so_14 : decode cX9_so 14 = .ok (.ifCond .eq 8, 3) := by decide +kernel
theorem dX9_so_17 : decode cX9_so 17 = .ok (.aload_n 0, 1) := by decide +kernel
theorem dX9_so_18 : decode cX9_so 18 = .ok (.invokevirtual 69, 3) := by decide +kernel
theorem dX9_so_21 : decode cX9_so 21 = .ok (.ireturn, 1) := by decide +kernel
theorem dX9_so_22 : decode cX9_so 22 = .ok (.aload_n 0, 1) := by decide +kernel
theorem dX9_so_23 : decode cX9_so 23 = .ok (.invokevirtual 185, 3) := by decide +kernel
theorem dX9_so_26 : decode cX9_so 26 = .ok (.ifCond .eq 8, 3) := by decide +kernel
theorem dX9_so_29 : decode cX9_so 29 = .ok (.aload_n 0, 1) := by decide +kernel
theorem dX9_so_30 : decode cX9_so 30 = .ok (.invokevirtual 169, 3) := by decide +kernel
theorem dX9_so_33 : decode cX9_so 33 = .ok (.ireturn, 1) := by decide +kernel
theorem dX9_so_34 : decode cX9_so 34 = .ok (.aload_n 0, 1) := by decide +kernel
theorem dX9_so_35 : decode cX9_so 35 = .ok (.getfield 27, 3) := by decide +kernel
theorem dX9_so_38 : decode cX9_so 38 = .ok (.getfield 163, 3) := by decide +kernel
theorem dX9_so_41 : decode cX9_so 41 = .ok (.iload_n 1, 1) := by decide +kernel
theorem dX9_so_42 : decode cX9_so 42 = .ok (.aaload, 1) := by decide +kernel
theorem dX9_so_43 : decode cX9_so 43 = .ok (.astore_n 2, 1) := by decide +kernel
theorem dX9_so_44 : decode cX9_so 44 = .ok (.aload_n 0, 1) := by decide +kernel
theorem dX9_so_45 : decode cX9_so 45 = .ok (.aload_n 0, 1) := by decide +kernel
theorem dX9_so_46 : decode cX9_so 46 = .ok (.getfield 10, 3) := by decide +kernel
theorem dX9_so_49 : decode cX9_so 49 = .ok (.aload_n 2, 1) := by decide +kernel
theorem dX9_so_50 : decode cX9_so 50 = .ok (.iconst 1, 1) := by decide +kernel
theorem dX9_so_51 : decode cX9_so 51 = .ok (.iaload, 1) := by decide +kernel
theorem dX9_so_52 : decode cX9_so 52 = .ok (.aload_n 2, 1) := by decide +kernel
theorem dX9_so_53 : decode cX9_so 53 = .ok (.iconst 2, 1) := by decide +kernel
theorem dX9_so_54 : decode cX9_so 54 = .ok (.iaload, 1) := by decide +kernel
theorem dX9_so_55 : decode cX9_so 55 = .ok (.aload_n 2, 1) := by decide +kernel
theorem dX9_so_56 : decode cX9_so 56 = .ok (.iconst 3, 1) := by decide +kernel
theorem dX9_so_57 : decode cX9_so 57 = .ok (.iaload, 1) := by decide +kernel
theorem dX9_so_58 : decode cX9_so 58 = .ok (.invokevirtual 201, 3) := by decide +kernel
theorem dX9_so_61 : decode cX9_so 61 = .ok (.invokevirtual 193, 3) := by decide +kernel
theorem dX9_so_64 : decode cX9_so 64 = .ok (.ireturn, 1) := by decide +kernel
theorem dX9_lost_0 : decode cX9_lost 0 = .ok (.aload_n 0, 1) := by decide +kernel
theorem dX9_lost_1 : decode cX9_lost 1 = .ok (.iload_n 1, 1) := by decide +kernel
theorem dX9_lost_2 : decode cX9_lost 2 = .ok (.invokevirtual 151, 3) := by decide +kernel
theorem dX9_lost_5 : decode cX9_lost 5 = .ok (.ifCond .eq 8, 3) := by decide +kernel
theorem dX9_lost_8 : decode cX9_lost 8 = .ok (.aload_n 0, 1) := by decide +kernel
theorem dX9_lost_9 : decode cX9_lost 9 = .ok (.invokevirtual 69, 3) := by decide +kernel
theorem dX9_lost_12 : decode cX9_lost 12 = .ok (.ireturn, 1) := by decide +kernel
theorem dX9_lost_13 : decode cX9_lost 13 = .ok (.aload_n 0, 1) := by decide +kernel
theorem dX9_lost_14 : decode cX9_lost 14 = .ok (.invokevirtual 185, 3) := by decide +kernel
theorem dX9_lost_17 : decode cX9_lost 17 = .ok (.ifCond .eq 8, 3) := by decide +kernel
theorem dX9_lost_20 : decode cX9_lost 20 = .ok (.aload_n 0, 1) := by decide +kernel
theorem dX9_lost_21 : decode cX9_lost 21 = .ok (.invokevirtual 169, 3) := by decide +kernel
theorem dX9_lost_24 : decode cX9_lost 24 = .ok (.ireturn, 1) := by decide +kernel
theorem dX9_lost_25 : decode cX9_lost 25 = .ok (.aload_n 0, 1) := by decide +kernel
theorem dX9_lost_26 : decode cX9_lost 26 = .ok (.getfield 10, 3) := by decide +kernel
theorem dX9_lost_29 : decode cX9_lost 29 = .ok (.iload_n 1, 1) := by decide +kernel
theorem dX9_lost_30 : decode cX9_lost 30 = .ok (.invokevirtual 205, 3) := by decide +kernel
theorem dX9_lost_33 : decode cX9_lost 33 = .ok (.ireturn, 1) := by decide +kernel
theorem dX9_next_0 : decode cX9_next 0 = .ok (.aload_n 0, 1) := by decide +kernel
theorem dX9_next_1 : decode cX9_next 1 = .ok (.invokevirtual 185, 3) := by decide +kernel
theorem dX9_next_4 : decode cX9_next 4 = .ok (.ifCond .eq 8, 3) := by decide +kernel
theorem dX9_next_7 : decode cX9_next 7 = .ok (.aload_n 0, 1) := by decide +kernel
theorem dX9_next_8 : decode cX9_next 8 = .ok (.invokevirtual 169, 3) := by decide +kernel
theorem dX9_next_11 : decode cX9_next 11 = .ok (.ireturn, 1) := by decide +kernel
theorem dX9_next_12 : decode cX9_next 12 = .ok (.aload_n 0, 1) := by decide +kernel
theorem dX9_next_13 : decode cX9_next 13 = .ok (.getfield 10, 3) := by decide +kernel
theorem dX9_next_16 : decode cX9_next 16 = .ok (.invokevirtual 209, 3) := by decide +kernel
theorem dX9_next_19 : decode cX9_next 19 = .ok (.ireturn, 1) := by decide +kernel
theorem dX9_fed_0 : decode cX9_fed 0 = .ok (.aload_n 0, 1) := by decide +kernel
theorem dX9_fed_1 : decode cX9_fed 1 = .ok (.iload_n 1, 1) := by decide +kernel
theorem dX9_fed_2 : decode cX9_fed 2 = .ok (.invokevirtual 135, 3) := by decide +kernel
theorem dX9_fed_5 : decode cX9_fed 5 = .ok (.ifCond .ne 13, 3) := by decide +kernel
theorem dX9_fed_8 : decode cX9_fed 8 = .ok (.iload_n 2, 1) := by decide +kernel
theorem dX9_fed_9 : decode cX9_fed 9 = .ok (.iconst 0, 1) := by decide +kernel
theorem dX9_fed_10 : decode cX9_fed 10 = .ok (.bipush 9, 2) := by decide +kernel
theorem dX9_fed_12 : decode cX9_fed 12 = .ok (.invokestatic 65, 3) := by decide +kernel
theorem dX9_fed_15 : decode cX9_fed 15 = .ok (.ifCond .eq 8, 3) := by decide +kernel
theorem dX9_fed_18 : decode cX9_fed 18 = .ok (.aload_n 0, 1) := by decide +kernel
theorem dX9_fed_19 : decode cX9_fed 19 = .ok (.invokevirtual 69, 3) := by decide +kernel
theorem dX9_fed_22 : decode cX9_fed 22 = .ok (.ireturn, 1) := by decide +kernel
theorem dX9_fed_23 : decode cX9_fed 23 = .ok (.aload_n 0, 1) := by decide +kernel
theorem dX9_fed_24 : decode cX9_fed 24 = .ok (.getfield 27, 3) := by decide +kernel
theorem dX9_fed_27 : decode cX9_fed 27 = .ok (.iload_n 1, 1) := by decide +kernel
theorem dX9_fed_28 : decode cX9_fed 28 = .ok (.iload_n 2, 1) := by decide +kernel
theorem dX9_fed_29 : decode cX9_fed 29 = .ok (.invokevirtual 212, 3) := by decide +kernel
theorem dX9_fed_32 : decode cX9_fed 32 = .ok (.ireturn, 1) := by decide +kernel
theorem dX9_dry_0 : decode cX9_dry 0 = .ok (.aload_n 0, 1) := by decide +kernel
theorem dX9_dry_1 : decode cX9_dry 1 = .ok (.iload_n 1, 1) := by decide +kernel
theorem dX9_dry_2 : decode cX9_dry 2 = .ok (.invokevirtual 135, 3) := by decide +kernel
theorem dX9_dry_5 : decode cX9_dry 5 = .ok (.ifCond .ne 23, 3) := by decide +kernel
theorem dX9_dry_8 : decode cX9_dry 8 = .ok (.iload_n 2, 1) := by decide +kernel
theorem dX9_dry_9 : decode cX9_dry 9 = .ok (.iconst 0, 1) := by decide +kernel
theorem dX9_dry_10 : decode cX9_dry 10 = .ok (.sipush 999, 3) := by decide +kernel
theorem dX9_dry_13 : decode cX9_dry 13 = .ok (.invokestatic 65, 3) := by decide +kernel
theorem dX9_dry_16 : decode cX9_dry 16 = .ok (.ifCond .ne 12, 3) := by decide +kernel
theorem dX9_dry_19 : decode cX9_dry 19 = .ok (.iload_n 3, 1) := by decide +kernel
theorem dX9_dry_20 : decode cX9_dry 20 = .ok (.iconst 0, 1) := by decide +kernel
theorem dX9_dry_21 : decode cX9_dry 21 = .ok (.iconst 1, 1) := by decide +kernel
theorem dX9_dry_22 : decode cX9_dry 22 = .ok (.invokestatic 65, 3) := by decide +kernel
theorem dX9_dry_25 : decode cX9_dry 25 = .ok (.ifCond .eq 8, 3) := by decide +kernel
theorem dX9_dry_28 : decode cX9_dry 28 = .ok (.aload_n 0, 1) := by decide +kernel
theorem dX9_dry_29 : decode cX9_dry 29 = .ok (.invokevirtual 215, 3) := by decide +kernel
theorem dX9_dry_32 : decode cX9_dry 32 = .ok (.ireturn, 1) := by decide +kernel
theorem dX9_dry_33 : decode cX9_dry 33 = .ok (.iconst (-1), 1) := by decide +kernel
theorem dX9_dry_34 : decode cX9_dry 34 = .ok (.istore 4, 2) := by decide +kernel
theorem dX9_dry_36 : decode cX9_dry 36 = .ok (.iconst 0, 1) := by decide +kernel
theorem dX9_dry_37 : decode cX9_dry 37 = .ok (.istore 5, 2) := by decide +kernel
theorem dX9_dry_39 : decode cX9_dry 39 = .ok (.iconst 0, 1) := by decide +kernel
theorem dX9_dry_40 : decode cX9_dry 40 = .ok (.istore 6, 2) := by decide +kernel
theorem dX9_dry_42 : decode cX9_dry 42 = .ok (.iconst 0, 1) := by decide +kernel
theorem dX9_dry_43 : decode cX9_dry 43 = .ok (.istore 7, 2) := by decide +kernel
theorem dX9_dry_45 : decode cX9_dry 45 = .ok (.iload 7, 2) := by decide +kernel
theorem dX9_dry_47 : decode cX9_dry 47 = .ok (.bipush 10, 2) := by decide +kernel
theorem dX9_dry_49 : decode cX9_dry 49 = .ok (.if_icmp .ge 53, 3) := by decide +kernel
theorem dX9_dry_52 : decode cX9_dry 52 = .ok (.aload_n 0, 1) := by decide +kernel
theorem dX9_dry_53 : decode cX9_dry 53 = .ok (.getfield 27, 3) := by decide +kernel
theorem dX9_dry_56 : decode cX9_dry 56 = .ok (.iload_n 1, 1) := by decide +kernel
theorem dX9_dry_57 : decode cX9_dry 57 = .ok (.iload 7, 2) := by decide +kernel
theorem dX9_dry_59 : decode cX9_dry 59 = .ok (.invokevirtual 212, 3) := by decide +kernel
theorem dX9_dry_62 : decode cX9_dry 62 = .ok (.iload_n 2, 1) := by decide +kernel
theorem dX9_dry_63 : decode cX9_dry 63 = .ok (.if_icmp .ge 10, 3) := by decide +kernel
theorem dX9_dry_66 : decode cX9_dry 66 = .ok (.iload 6, 2) := by decide +kernel
theorem dX9_dry_68 : decode cX9_dry 68 = .ok (.iconst 1, 1) := by decide +kernel
theorem dX9_dry_69 : decode cX9_dry 69 = .ok (.iadd, 1) := by decide +kernel
theorem dX9_dry_70 : decode cX9_dry 70 = .ok (.goto 4, 3) := by decide +kernel
theorem dX9_dry_73 : decode cX9_dry 73 = .ok (.iconst 0, 1) := by decide +kernel
theorem dX9_dry_74 : decode cX9_dry 74 = .ok (.istore 6, 2) := by decide +kernel
theorem dX9_dry_76 : decode cX9_dry 76 = .ok (.iload 6, 2) := by decide +kernel
theorem dX9_dry_78 : decode cX9_dry 78 = .ok (.iload 5, 2) := by decide +kernel
theorem dX9_dry_80 : decode cX9_dry 80 = .ok (.if_icmp .le 16, 3) := by decide +kernel
theorem dX9_dry_83 : decode cX9_dry 83 = .ok (.iload 6, 2) := by decide +kernel
theorem dX9_dry_85 : decode cX9_dry 85 = .ok (.istore 5, 2) := by decide +kernel
theorem dX9_dry_87 : decode cX9_dry 87 = .ok (.iload 7, 2) := by decide +kernel
theorem dX9_dry_89 : decode cX9_dry 89 = .ok (.iload 6, 2) := by decide +kernel
theorem dX9_dry_91 : decode cX9_dry 91 = .ok (.isub, 1) := by decide +kernel
theorem dX9_dry_92 : decode cX9_dry 92 = .ok (.iconst 1, 1) := by decide +kernel
theorem dX9_dry_93 : decode cX9_dry 93 = .ok (.iadd, 1) := by decide +kernel
theorem dX9_dry_94 : decode cX9_dry 94 = .ok (.istore 4, 2) := by decide +kernel
theorem dX9_dry_96 : decode cX9_dry 96 = .ok (.iinc 7 1, 3) := by decide +kernel
theorem dX9_dry_99 : decode cX9_dry 99 = .ok (.goto (-54), 3) := by decide +kernel
theorem dX9_dry_102 : decode cX9_dry 102 = .ok (.iload_n 3, 1) := by decide +kernel
theorem dX9_dry_103 : decode cX9_dry 103 = .ok (.ifCond .ne 8, 3) := by decide +kernel
theorem dX9_dry_106 : decode cX9_dry 106 = .ok (.iload 4, 2) := by decide +kernel
theorem dX9_dry_108 : decode cX9_dry 108 = .ok (.goto 5, 3) := by decide +kernel
theorem dX9_dry_111 : decode cX9_dry 111 = .ok (.iload 5, 2) := by decide +kernel
theorem dX9_dry_113 : decode cX9_dry 113 = .ok (.ireturn, 1) := by decide +kernel
theorem dX9_many_0 : decode cX9_many 0 = .ok (.iload_n 1, 1) := by decide +kernel
theorem dX9_many_1 : decode cX9_many 1 = .ok (.invokestatic 103, 3) := by decide +kernel
theorem dX9_many_4 : decode cX9_many 4 = .ok (.ifCond .ne 33, 3) := by decide +kernel
theorem dX9_many_7 : decode cX9_many 7 = .ok (.iload_n 2, 1) := by decide +kernel
theorem dX9_many_8 : decode cX9_many 8 = .ok (.iconst 0, 1) := by decide +kernel
theorem dX9_many_9 : decode cX9_many 9 = .ok (.bipush 20, 2) := by decide +kernel
theorem dX9_many_11 : decode cX9_many 11 = .ok (.invokestatic 65, 3) := by decide +kernel
theorem dX9_many_14 : decode cX9_many 14 = .ok (.ifCond .ne 23, 3) := by decide +kernel
theorem dX9_many_17 : decode cX9_many 17 = .ok (.iload_n 3, 1) := by decide +kernel
theorem dX9_many_18 : decode cX9_many 18 = .ok (.iconst 1, 1) := by decide +kernel
theorem dX9_many_19 : decode cX9_many 19 = .ok (.bipush 120, 2) := by decide +kernel
theorem dX9_many_21 : decode cX9_many 21 = .ok (.invokestatic 65, 3) := by decide +kernel
theorem dX9_many_24 : decode cX9_many 24 = .ok (.ifCond .ne 13, 3) := by decide +kernel
theorem dX9_many_27 : decode cX9_many 27 = .ok (.iload 4, 2) := by decide +kernel
theorem dX9_many_29 : decode cX9_many 29 = .ok (.iconst 0, 1) := by decide +kernel
theorem dX9_many_30 : decode cX9_many 30 = .ok (.iconst 1, 1) := by decide +kernel
theorem dX9_many_31 : decode cX9_many 31 = .ok (.invokestatic 65, 3) := by decide +kernel
theorem dX9_many_34 : decode cX9_many 34 = .ok (.ifCond .eq 8, 3) := by decide +kernel
theorem dX9_many_37 : decode cX9_many 37 = .ok (.aload_n 0, 1) := by decide +kernel
theorem dX9_many_38 : decode cX9_many 38 = .ok (.invokevirtual 215, 3) := by decide +kernel
theorem dX9_many_41 : decode cX9_many 41 = .ok (.ireturn, 1) := by decide +kernel
theorem dX9_many_42 : decode cX9_many 42 = .ok (.aload_n 0, 1) := by decide +kernel
theorem dX9_many_43 : decode cX9_many 43 = .ok (.getfield 27, 3) := by decide +kernel
theorem dX9_many_46 : decode cX9_many 46 = .ok (.getfield 107, 3) := by decide +kernel
theorem dX9_many_49 : decode cX9_many 49 = .ok (.iload_n 1, 1) := by decide +kernel
theorem dX9_many_50 : decode cX9_many 50 = .ok (.aaload, 1) := by decide +kernel
theorem dX9_many_51 : decode cX9_many 51 = .ok (.iconst 0, 1) := by decide +kernel
theorem dX9_many_52 : decode cX9_many 52 = .ok (.iaload, 1) := by decide +kernel
theorem dX9_many_53 : decode cX9_many 53 = .ok (.istore 5, 2) := by decide +kernel
theorem dX9_many_55 : decode cX9_many 55 = .ok (.iload_n 2, 1) := by decide +kernel
theorem dX9_many_56 : decode cX9_many 56 = .ok (.iload 5, 2) := by decide +kernel
theorem dX9_many_58 : decode cX9_many 58 = .ok (.imul, 1) := by decide +kernel
theorem dX9_many_59 : decode cX9_many 59 = .ok (.iload_n 3, 1) := by decide +kernel
theorem dX9_many_60 : decode cX9_many 60 = .ok (.iadd, 1) := by decide +kernel
theorem dX9_many_61 : decode cX9_many 61 = .ok (.iconst 1, 1) := by decide +kernel
theorem dX9_many_62 : decode cX9_many 62 = .ok (.isub, 1) := by decide +kernel
theorem dX9_many_63 : decode cX9_many 63 = .ok (.iload_n 3, 1) := by decide +kernel
theorem dX9_many_64 : decode cX9_many 64 = .ok (.idiv, 1) := by decide +kernel
theorem dX9_many_65 : decode cX9_many 65 = .ok (.istore 6, 2) := by decide +kernel
theorem dX9_many_67 : decode cX9_many 67 = .ok (.iload_n 2, 1) := by decide +kernel
theorem dX9_many_68 : decode cX9_many 68 = .ok (.iconst 1, 1) := by decide +kernel
theorem dX9_many_69 : decode cX9_many 69 = .ok (.iadd, 1) := by decide +kernel
theorem dX9_many_70 : decode cX9_many 70 = .ok (.iload 5, 2) := by decide +kernel
theorem dX9_many_72 : decode cX9_many 72 = .ok (.imul, 1) := by decide +kernel
theorem dX9_many_73 : decode cX9_many 73 = .ok (.iconst 1, 1) := by decide +kernel
theorem dX9_many_74 : decode cX9_many 74 = .ok (.isub, 1) := by decide +kernel
theorem dX9_many_75 : decode cX9_many 75 = .ok (.iload_n 3, 1) := by decide +kernel
theorem dX9_many_76 : decode cX9_many 76 = .ok (.idiv, 1) := by decide +kernel
theorem dX9_many_77 : decode cX9_many 77 = .ok (.sipush 999, 3) := by decide +kernel
theorem dX9_many_80 : decode cX9_many 80 = .ok (.invokestatic 218, 3) := by decide +kernel
theorem dX9_many_83 : decode cX9_many 83 = .ok (.istore 7, 2) := by decide +kernel
theorem dX9_many_85 : decode cX9_many 85 = .ok (.iload 6, 2) := by decide +kernel
theorem dX9_many_87 : decode cX9_many 87 = .ok (.iload 7, 2) := by decide +kernel
theorem dX9_many_89 : decode cX9_many 89 = .ok (.if_icmp .le 5, 3) := by decide +kernel
theorem dX9_many_92 : decode cX9_many 92 = .ok (.iconst (-1), 1) := by decide +kernel
theorem dX9_many_93 : decode cX9_many 93 = .ok (.ireturn, 1) := by decide +kernel
theorem dX9_many_94 : decode cX9_many 94 = .ok (.iload 4, 2) := by decide +kernel
theorem dX9_many_96 : decode cX9_many 96 = .ok (.ifCond .ne 8, 3) := by decide +kernel
theorem dX9_many_99 : decode cX9_many 99 = .ok (.iload 6, 2) := by decide +kernel
theorem dX9_many_101 : decode cX9_many 101 = .ok (.goto 5, 3) := by decide +kernel
theorem dX9_many_104 : decode cX9_many 104 = .ok (.iload 7, 2) := by decide +kernel
theorem dX9_many_106 : decode cX9_many 106 = .ok (.ireturn, 1) := by decide +kernel
theorem dX9_stone_0 : decode cX9_stone 0 = .ok (.iload_n 1, 1) := by decide +kernel
theorem dX9_stone_1 : decode cX9_stone 1 = .ok (.iconst 0, 1) := by decide +kernel
theorem dX9_stone_2 : decode cX9_stone 2 = .ok (.bipush 10, 2) := by decide +kernel
theorem dX9_stone_4 : decode cX9_stone 4 = .ok (.invokestatic 65, 3) := by decide +kernel
theorem dX9_stone_7 : decode cX9_stone 7 = .ok (.ifCond .ne 22, 3) := by decide +kernel
theorem dX9_stone_10 : decode cX9_stone 10 = .ok (.iload_n 2, 1) := by decide +kernel
theorem dX9_stone_11 : decode cX9_stone 11 = .ok (.iconst 1, 1) := by decide +kernel
theorem dX9_stone_12 : decode cX9_stone 12 = .ok (.bipush 12, 2) := by decide +kernel
theorem dX9_stone_14 : decode cX9_stone 14 = .ok (.invokestatic 65, 3) := by decide +kernel
theorem dX9_stone_17 : decode cX9_stone 17 = .ok (.ifCond .ne 12, 3) := by decide +kernel
theorem dX9_stone_20 : decode cX9_stone 20 = .ok (.iload_n 3, 1) := by decide +kernel
theorem dX9_stone_21 : decode cX9_stone 21 = .ok (.iconst 0, 1) := by decide +kernel
theorem dX9_stone_22 : decode cX9_stone 22 = .ok (.iload_n 2, 1) := by decide +kernel
theorem dX9_stone_23 : decode cX9_stone 23 = .ok (.invokestatic 65, 3) := by decide +kernel
theorem dX9_stone_26 : decode cX9_stone 26 = .ok (.ifCond .eq 8, 3) := by decide +kernel
theorem dX9_stone_29 : decode cX9_stone 29 = .ok (.aload_n 0, 1) := by decide +kernel
theorem dX9_stone_30 : decode cX9_stone 30 = .ok (.invokevirtual 69, 3) := by decide +kernel
theorem dX9_stone_33 : decode cX9_stone 33 = .ok (.ireturn, 1) := by decide +kernel
theorem dX9_stone_34 : decode cX9_stone 34 = .ok (.iload 4, 2) := by decide +kernel
theorem dX9_stone_36 : decode cX9_stone 36 = .ok (.iconst 1, 1) := by decide +kernel
theorem dX9_stone_37 : decode cX9_stone 37 = .ok (.bipush 9, 2) := by decide +kernel
theorem dX9_stone_39 : decode cX9_stone 39 = .ok (.invokestatic 65, 3) := by decide +kernel
theorem dX9_stone_42 : decode cX9_stone 42 = .ok (.ifCond .ne 14, 3) := by decide +kernel
theorem dX9_stone_45 : decode cX9_stone 45 = .ok (.iload 5, 2) := by decide +kernel
theorem dX9_stone_47 : decode cX9_stone 47 = .ok (.iconst 1, 1) := by decide +kernel
theorem dX9_stone_48 : decode cX9_stone 48 = .ok (.bipush 9, 2) := by decide +kernel
theorem dX9_stone_50 : decode cX9_stone 50 = .ok (.invokestatic 65, 3) := by decide +kernel
theorem dX9_stone_53 : decode cX9_stone 53 = .ok (.ifCond .eq 8, 3) := by decide +kernel
theorem dX9_stone_56 : decode cX9_stone 56 = .ok (.aload_n 0, 1) := by decide +kernel
theorem dX9_stone_57 : decode cX9_stone 57 = .ok (.invokevirtual 69, 3) := by decide +kernel
theorem dX9_stone_60 : decode cX9_stone 60 = .ok (.ireturn, 1) := by decide +kernel
theorem dX9_stone_61 : decode cX9_stone 61 = .ok (.iload_n 1, 1) := by decide +kernel
theorem dX9_stone_62 : decode cX9_stone 62 = .ok (.i2l, 1) := by decide +kernel
theorem dX9_stone_63 : decode cX9_stone 63 = .ok (.iload_n 2, 1) := by decide +kernel
theorem dX9_stone_64 : decode cX9_stone 64 = .ok (.iload_n 3, 1) := by decide +kernel
theorem dX9_stone_65 : decode cX9_stone 65 = .ok (.iload 5, 2) := by decide +kernel
theorem dX9_stone_67 : decode cX9_stone 67 = .ok (.invokestatic 223, 3) := by decide +kernel
theorem dX9_stone_70 : decode cX9_stone 70 = .ok (.lmul, 1) := by decide +kernel
theorem dX9_stone_71 : decode cX9_stone 71 = .ok (.lstore 6, 2) := by decide +kernel
theorem dX9_stone_73 : decode cX9_stone 73 = .ok (.bipush 10, 2) := by decide +kernel
theorem dX9_stone_75 : decode cX9_stone 75 = .ok (.iload_n 1, 1) := by decide +kernel
theorem dX9_stone_76 : decode cX9_stone 76 = .ok (.isub, 1) := by decide +kernel
theorem dX9_stone_77 : decode cX9_stone 77 = .ok (.i2l, 1) := by decide +kernel
theorem dX9_stone_78 : decode cX9_stone 78 = .ok (.iload_n 2, 1) := by decide +kernel
theorem dX9_stone_79 : decode cX9_stone 79 = .ok (.iload_n 3, 1) := by decide +kernel
theorem dX9_stone_80 : decode cX9_stone 80 = .ok (.iload 4, 2) := by decide +kernel
theorem dX9_stone_82 : decode cX9_stone 82 = .ok (.invokestatic 223, 3) := by decide +kernel
theorem dX9_stone_85 : decode cX9_stone 85 = .ok (.lmul, 1) := by decide +kernel
theorem dX9_stone_86 : decode cX9_stone 86 = .ok (.lstore 8, 2) := by decide +kernel
theorem dX9_stone_88 : decode cX9_stone 88 = .ok (.aload_n 0, 1) := by decide +kernel
theorem dX9_stone_89 : decode cX9_stone 89 = .ok (.getfield 57, 3) := by decide +kernel
theorem dX9_stone_92 : decode cX9_stone 92 = .ok (.lload 6, 2) := by decide +kernel
theorem dX9_stone_94 : decode cX9_stone 94 = .ok (.invokevirtual 227, 3) := by decide +kernel
theorem dX9_stone_97 : decode cX9_stone 97 = .ok (.aload_n 0, 1) := by decide +kernel
theorem dX9_stone_98 : decode cX9_stone 98 = .ok (.getfield 61, 3) := by decide +kernel
theorem dX9_stone_101 : decode cX9_stone 101 = .ok (.lload 6, 2) := by decide +kernel
theorem dX9_stone_103 : decode cX9_stone 103 = .ok (.lload 8, 2) := by decide +kernel
theorem dX9_stone_105 : decode cX9_stone 105 = .ok (.ladd, 1) := by decide +kernel
theorem dX9_stone_106 : decode cX9_stone 106 = .ok (.invokevirtual 227, 3) := by decide +kernel
theorem dX9_stone_109 : decode cX9_stone 109 = .ok (.aload_n 0, 1) := by decide +kernel
theorem dX9_stone_110 : decode cX9_stone 110 = .ok (.getfield 41, 3) := by decide +kernel
theorem dX9_stone_113 : decode cX9_stone 113 = .ok (.aload_n 0, 1) := by decide +kernel
theorem dX9_stone_114 : decode cX9_stone 114 = .ok (.getfield 57, 3) := by decide +kernel
theorem dX9_stone_117 : decode cX9_stone 117 = .ok (.aload_n 0, 1) := by decide +kernel
theorem dX9_stone_118 : decode cX9_stone 118 = .ok (.getfield 61, 3) := by decide +kernel
theorem dX9_stone_121 : decode cX9_stone 121 = .ok (.invokevirtual 231, 3) := by decide +kernel
theorem dX9_stone_124 : decode cX9_stone 124 = .ok (.iconst 1, 1) := by decide +kernel
theorem dX9_stone_125 : decode cX9_stone 125 = .ok (.ireturn, 1) := by decide +kernel
theorem dX9_days_0 : decode cX9_days 0 = .ok (.aload_n 0, 1) := by decide +kernel
theorem dX9_days_1 : decode cX9_days 1 = .ok (.iload_n 1, 1) := by decide +kernel
theorem dX9_days_2 : decode cX9_days 2 = .ok (.invokevirtual 135, 3) := by decide +kernel
theorem dX9_days_5 : decode cX9_days 5 = .ok (.ifCond .ne 26, 3) := by decide +kernel
theorem dX9_days_8 : decode cX9_days 8 = .ok (.aload_n 0, 1) := by decide +kernel
theorem dX9_days_9 : decode cX9_days 9 = .ok (.iload_n 2, 1) := by decide +kernel
theorem dX9_days_10 : decode cX9_days 10 = .ok (.invokevirtual 135, 3) := by decide +kernel
theorem dX9_days_13 : decode cX9_days 13 = .ok (.ifCond .ne 18, 3) := by decide +kernel
theorem dX9_days_16 : decode cX9_days 16 = .ok (.iload_n 1, 1) := by decide +kernel
theorem dX9_days_17 : decode cX9_days 17 = .ok (.iload_n 2, 1) := by decide +kernel
theorem dX9_days_18 : decode cX9_days 18 = .ok (.if_icmp .eq 13, 3) := by decide +kernel
theorem dX9_days_21 : decode cX9_days 21 = .ok (.iload_n 3, 1) := by decide +kernel
theorem dX9_days_22 : decode cX9_days 22 = .ok (.iconst 0, 1) := by decide +kernel
theorem dX9_days_23 : decode cX9_days 23 = .ok (.bipush 20, 2) := by decide +kernel
theorem dX9_days_25 : decode cX9_days 25 = .ok (.invokestatic 65, 3) := by decide +kernel
theorem dX9_days_28 : decode cX9_days 28 = .ok (.ifCond .eq 8, 3) := by decide +kernel
theorem dX9_days_31 : decode cX9_days 31 = .ok (.aload_n 0, 1) := by decide +kernel
theorem dX9_days_32 : decode cX9_days 32 = .ok (.invokevirtual 69, 3) := by decide +kernel
theorem dX9_days_35 : decode cX9_days 35 = .ok (.ireturn, 1) := by decide +kernel
theorem dX9_days_36 : decode cX9_days 36 = .ok (.aload_n 0, 1) := by decide +kernel
theorem dX9_days_37 : decode cX9_days 37 = .ok (.getfield 27, 3) := by decide +kernel
theorem dX9_days_40 : decode cX9_days 40 = .ok (.getfield 234, 3) := by decide +kernel
theorem dX9_days_43 : decode cX9_days 43 = .ok (.iload_n 2, 1) := by decide +kernel
theorem dX9_days_44 : decode cX9_days 44 = .ok (.aaload, 1) := by decide +kernel
theorem dX9_days_45 : decode cX9_days 45 = .ok (.iload_n 1, 1) := by decide +kernel
theorem dX9_days_46 : decode cX9_days 46 = .ok (.iload_n 3, 1) := by decide +kernel
theorem dX9_days_47 : decode cX9_days 47 = .ok (.iastore, 1) := by decide +kernel
theorem dX9_days_48 : decode cX9_days 48 = .ok (.aload_n 0, 1) := by decide +kernel
theorem dX9_days_49 : decode cX9_days 49 = .ok (.aload_n 0, 1) := by decide +kernel
theorem dX9_days_50 : decode cX9_days 50 = .ok (.getfield 27, 3) := by decide +kernel
theorem dX9_days_53 : decode cX9_days 53 = .ok (.getfield 234, 3) := by decide +kernel
theorem dX9_days_56 : decode cX9_days 56 = .ok (.iload_n 1, 1) := by decide +kernel
theorem dX9_days_57 : decode cX9_days 57 = .ok (.aaload, 1) := by decide +kernel
theorem dX9_days_58 : decode cX9_days 58 = .ok (.iload_n 2, 1) := by decide +kernel
theorem dX9_days_59 : decode cX9_days 59 = .ok (.iload_n 3, 1) := by decide +kernel
theorem dX9_days_60 : decode cX9_days 60 = .ok (.invokevirtual 90, 3) := by decide +kernel
theorem dX9_days_63 : decode cX9_days 63 = .ok (.ireturn, 1) := by decide +kernel
theorem dX9_storm_0 : decode cX9_storm 0 = .ok (.iload_n 1, 1) := by decide +kernel
theorem dX9_storm_1 : decode cX9_storm 1 = .ok (.iconst 0, 1) := by decide +kernel
theorem dX9_storm_2 : decode cX9_storm 2 = .ok (.bipush 59, 2) := by decide +kernel
theorem dX9_storm_4 : decode cX9_storm 4 = .ok (.invokestatic 65, 3) := by decide +kernel
theorem dX9_storm_7 : decode cX9_storm 7 = .ok (.ifCond .eq 8, 3) := by decide +kernel
theorem dX9_storm_10 : decode cX9_storm 10 = .ok (.aload_n 0, 1) := by decide +kernel
theorem dX9_storm_11 : decode cX9_storm 11 = .ok (.invokevirtual 69, 3) := by decide +kernel
theorem dX9_storm_14 : decode cX9_storm 14 = .ok (.ireturn, 1) := by decide +kernel
theorem dX9_storm_15 : decode cX9_storm 15 = .ok (.iload_n 2, 1) := by decide +kernel
theorem dX9_storm_16 : decode cX9_storm 16 = .ok (.ifCond .eq 7, 3) := by decide +kernel
theorem dX9_storm_19 : decode cX9_storm 19 = .ok (.iconst 1, 1) := by decide +kernel
theorem dX9_storm_20 : decode cX9_storm 20 = .ok (.goto 4, 3) := by decide +kernel
theorem dX9_storm_23 : decode cX9_storm 23 = .ok (.iconst 0, 1) := by decide +kernel
theorem dX9_storm_24 : decode cX9_storm 24 = .ok (.istore_n 3, 1) := by decide +kernel
theorem dX9_storm_25 : decode cX9_storm 25 = .ok (.aload_n 0, 1) := by decide +kernel
theorem dX9_storm_26 : decode cX9_storm 26 = .ok (.getfield 27, 3) := by decide +kernel
theorem dX9_storm_29 : decode cX9_storm 29 = .ok (.getfield 237, 3) := by decide +kernel
theorem dX9_storm_32 : decode cX9_storm 32 = .ok (.iload_n 1, 1) := by decide +kernel
theorem dX9_storm_33 : decode cX9_storm 33 = .ok (.iaload, 1) := by decide +kernel
theorem dX9_storm_34 : decode cX9_storm 34 = .ok (.iload_n 3, 1) := by decide +kernel
theorem dX9_storm_35 : decode cX9_storm 35 = .ok (.if_icmp .ne 8, 3) := by decide +kernel
theorem dX9_storm_38 : decode cX9_storm 38 = .ok (.aload_n 0, 1) := by decide +kernel
theorem dX9_storm_39 : decode cX9_storm 39 = .ok (.invokevirtual 169, 3) := by decide +kernel
theorem dX9_storm_42 : decode cX9_storm 42 = .ok (.ireturn, 1) := by decide +kernel
theorem dX9_storm_43 : decode cX9_storm 43 = .ok (.aload_n 0, 1) := by decide +kernel
theorem dX9_storm_44 : decode cX9_storm 44 = .ok (.getfield 27, 3) := by decide +kernel
theorem dX9_storm_47 : decode cX9_storm 47 = .ok (.getfield 237, 3) := by decide +kernel
theorem dX9_storm_50 : decode cX9_storm 50 = .ok (.iload_n 1, 1) := by decide +kernel
theorem dX9_storm_51 : decode cX9_storm 51 = .ok (.iload_n 3, 1) := by decide +kernel
theorem dX9_storm_52 : decode cX9_storm 52 = .ok (.iastore, 1) := by decide +kernel
theorem dX9_storm_53 : decode cX9_storm 53 = .ok (.iconst 1, 1) := by decide +kernel
theorem dX9_storm_54 : decode cX9_storm 54 = .ok (.ireturn, 1) := by decide +kernel
theorem dX9_sails_0 : decode cX9_sails 0 = .ok (.aload_n 0, 1) := by decide +kernel
theorem dX9_sails_1 : decode cX9_sails 1 = .ok (.iload_n 1, 1) := by decide +kernel
theorem dX9_sails_2 : decode cX9_sails 2 = .ok (.invokevirtual 135, 3) := by decide +kernel
theorem dX9_sails_5 : decode cX9_sails 5 = .ok (.ifCond .ne 21, 3) := by decide +kernel
theorem dX9_sails_8 : decode cX9_sails 8 = .ok (.aload_n 0, 1) := by decide +kernel
theorem dX9_sails_9 : decode cX9_sails 9 = .ok (.iload_n 2, 1) := by decide +kernel
theorem dX9_sails_10 : decode cX9_sails 10 = .ok (.invokevirtual 135, 3) := by decide +kernel
theorem dX9_sails_13 : decode cX9_sails 13 = .ok (.ifCond .ne 13, 3) := by decide +kernel
theorem dX9_sails_16 : decode cX9_sails 16 = .ok (.iload_n 3, 1) := by decide +kernel
theorem dX9_sails_17 : decode cX9_sails 17 = .ok (.iconst 0, 1) := by decide +kernel
theorem dX9_sails_18 : decode cX9_sails 18 = .ok (.bipush 59, 2) := by decide +kernel
theorem dX9_sails_20 : decode cX9_sails 20 = .ok (.invokestatic 65, 3) := by decide +kernel
theorem dX9_sails_23 : decode cX9_sails 23 = .ok (.ifCond .eq 8, 3) := by decide +kernel
theorem dX9_sails_26 : decode cX9_sails 26 = .ok (.aload_n 0, 1) := by decide +kernel
theorem dX9_sails_27 : decode cX9_sails 27 = .ok (.invokevirtual 215, 3) := by decide +kernel
theorem dX9_sails_30 : decode cX9_sails 30 = .ok (.ireturn, 1) := by decide +kernel
theorem dX9_sails_31 : decode cX9_sails 31 = .ok (.aload_n 0, 1) := by decide +kernel
theorem dX9_sails_32 : decode cX9_sails 32 = .ok (.getfield 48, 3) := by decide +kernel
theorem dX9_sails_35 : decode cX9_sails 35 = .ok (.aload_n 0, 1) := by decide +kernel
theorem dX9_sails_36 : decode cX9_sails 36 = .ok (.getfield 27, 3) := by decide +kernel
theorem dX9_sails_39 : decode cX9_sails 39 = .ok (.iload_n 1, 1) := by decide +kernel
theorem dX9_sails_40 : decode cX9_sails 40 = .ok (.iload_n 2, 1) := by decide +kernel
theorem dX9_sails_41 : decode cX9_sails 41 = .ok (.iload_n 3, 1) := by decide +kernel
theorem dX9_sails_42 : decode cX9_sails 42 = .ok (.invokevirtual 240, 3) := by decide +kernel
theorem dX9_sails_45 : decode cX9_sails 45 = .ok (.ireturn, 1) := by decide +kernel
theorem dX9_back_0 : decode cX9_back 0 = .ok (.aload_n 0, 1) := by decide +kernel
theorem dX9_back_1 : decode cX9_back 1 = .ok (.iload_n 1, 1) := by decide +kernel
theorem dX9_back_2 : decode cX9_back 2 = .ok (.invokevirtual 135, 3) := by decide +kernel
theorem dX9_back_5 : decode cX9_back 5 = .ok (.ifCond .ne 21, 3) := by decide +kernel
theorem dX9_back_8 : decode cX9_back 8 = .ok (.aload_n 0, 1) := by decide +kernel
theorem dX9_back_9 : decode cX9_back 9 = .ok (.iload_n 2, 1) := by decide +kernel
theorem dX9_back_10 : decode cX9_back 10 = .ok (.invokevirtual 135, 3) := by decide +kernel
theorem dX9_back_13 : decode cX9_back 13 = .ok (.ifCond .ne 13, 3) := by decide +kernel
theorem dX9_back_16 : decode cX9_back 16 = .ok (.iload_n 3, 1) := by decide +kernel
theorem dX9_back_17 : decode cX9_back 17 = .ok (.iconst 0, 1) := by decide +kernel
theorem dX9_back_18 : decode cX9_back 18 = .ok (.bipush 59, 2) := by decide +kernel
theorem dX9_back_20 : decode cX9_back 20 = .ok (.invokestatic 65, 3) := by decide +kernel
theorem dX9_back_23 : decode cX9_back 23 = .ok (.ifCond .eq 8, 3) := by decide +kernel
theorem dX9_back_26 : decode cX9_back 26 = .ok (.aload_n 0, 1) := by decide +kernel
theorem dX9_back_27 : decode cX9_back 27 = .ok (.invokevirtual 69, 3) := by decide +kernel
theorem dX9_back_30 : decode cX9_back 30 = .ok (.ireturn, 1) := by decide +kernel
theorem dX9_back_31 : decode cX9_back 31 = .ok (.iload 4, 2) := by decide +kernel
theorem dX9_back_33 : decode cX9_back 33 = .ok (.iconst 0, 1) := by decide +kernel
theorem dX9_back_34 : decode cX9_back 34 = .ok (.bipush 59, 2) := by decide +kernel
theorem dX9_back_36 : decode cX9_back 36 = .ok (.invokestatic 65, 3) := by decide +kernel
theorem dX9_back_39 : decode cX9_back 39 = .ok (.ifCond .ne 15, 3) := by decide +kernel
theorem dX9_back_42 : decode cX9_back 42 = .ok (.iload 5, 2) := by decide +kernel
theorem dX9_back_44 : decode cX9_back 44 = .ok (.iconst 0, 1) := by decide +kernel
theorem dX9_back_45 : decode cX9_back 45 = .ok (.sipush 999, 3) := by decide +kernel
theorem dX9_back_48 : decode cX9_back 48 = .ok (.invokestatic 65, 3) := by decide +kernel
theorem dX9_back_51 : decode cX9_back 51 = .ok (.ifCond .eq 8, 3) := by decide +kernel
theorem dX9_back_54 : decode cX9_back 54 = .ok (.aload_n 0, 1) := by decide +kernel
theorem dX9_back_55 : decode cX9_back 55 = .ok (.invokevirtual 69, 3) := by decide +kernel
theorem dX9_back_58 : decode cX9_back 58 = .ok (.ireturn, 1) := by decide +kernel
theorem dX9_back_59 : decode cX9_back 59 = .ok (.aload_n 0, 1) := by decide +kernel
theorem dX9_back_60 : decode cX9_back 60 = .ok (.getfield 48, 3) := by decide +kernel
theorem dX9_back_63 : decode cX9_back 63 = .ok (.aload_n 0, 1) := by decide +kernel
theorem dX9_back_64 : decode cX9_back 64 = .ok (.getfield 27, 3) := by decide +kernel
theorem dX9_back_67 : decode cX9_back 67 = .ok (.iload_n 1, 1) := by decide +kernel
theorem dX9_back_68 : decode cX9_back 68 = .ok (.iload_n 2, 1) := by decide +kernel
theorem dX9_back_69 : decode cX9_back 69 = .ok (.iload_n 3, 1) := by decide +kernel
theorem dX9_back_70 : decode cX9_back 70 = .ok (.invokevirtual 240, 3) := by decide +kernel
theorem dX9_back_73 : decode cX9_back 73 = .ok (.istore 6, 2) := by decide +kernel
theorem dX9_back_75 : decode cX9_back 75 = .ok (.iload 6, 2) := by decide +kernel
theorem dX9_back_77 : decode cX9_back 77 = .ok (.iconst (-1), 1) := by decide +kernel
theorem dX9_back_78 : decode cX9_back 78 = .ok (.if_icmp .ne 5, 3) := by decide +kernel
theorem dX9_back_81 : decode cX9_back 81 = .ok (.iconst 0, 1) := by decide +kernel
theorem dX9_back_82 : decode cX9_back 82 = .ok (.ireturn, 1) := by decide +kernel
theorem dX9_back_83 : decode cX9_back 83 = .ok (.aload_n 0, 1) := by decide +kernel
theorem dX9_back_84 : decode cX9_back 84 = .ok (.getfield 48, 3) := by decide +kernel
theorem dX9_back_87 : decode cX9_back 87 = .ok (.aload_n 0, 1) := by decide +kernel
theorem dX9_back_88 : decode cX9_back 88 = .ok (.getfield 27, 3) := by decide +kernel
theorem dX9_back_91 : decode cX9_back 91 = .ok (.iload_n 2, 1) := by decide +kernel
theorem dX9_back_92 : decode cX9_back 92 = .ok (.iload_n 1, 1) := by decide +kernel
theorem dX9_back_93 : decode cX9_back 93 = .ok (.iload 6, 2) := by decide +kernel
theorem dX9_back_95 : decode cX9_back 95 = .ok (.iload 4, 2) := by decide +kernel
theorem dX9_back_97 : decode cX9_back 97 = .ok (.iadd, 1) := by decide +kernel
theorem dX9_back_98 : decode cX9_back 98 = .ok (.invokevirtual 240, 3) := by decide +kernel
theorem dX9_back_101 : decode cX9_back 101 = .ok (.istore 7, 2) := by decide +kernel
theorem dX9_back_103 : decode cX9_back 103 = .ok (.iload 7, 2) := by decide +kernel
theorem dX9_back_105 : decode cX9_back 105 = .ok (.iconst (-1), 1) := by decide +kernel
theorem dX9_back_106 : decode cX9_back 106 = .ok (.if_icmp .eq 14, 3) := by decide +kernel
theorem dX9_back_109 : decode cX9_back 109 = .ok (.iload 7, 2) := by decide +kernel
theorem dX9_back_111 : decode cX9_back 111 = .ok (.iload 5, 2) := by decide +kernel
theorem dX9_back_113 : decode cX9_back 113 = .ok (.if_icmp .gt 7, 3) := by decide +kernel
theorem dX9_back_116 : decode cX9_back 116 = .ok (.iconst 1, 1) := by decide +kernel
theorem dX9_back_117 : decode cX9_back 117 = .ok (.goto 4, 3) := by decide +kernel
theorem dX9_back_120 : decode cX9_back 120 = .ok (.iconst 0, 1) := by decide +kernel
theorem dX9_back_121 : decode cX9_back 121 = .ok (.ireturn, 1) := by decide +kernel
theorem dX9_part_0 : decode cX9_part 0 = .ok (.iload_n 1, 1) := by decide +kernel
theorem dX9_part_1 : decode cX9_part 1 = .ok (.iconst 0, 1) := by decide +kernel
theorem dX9_part_2 : decode cX9_part 2 = .ok (.iconst 2, 1) := by decide +kernel
theorem dX9_part_3 : decode cX9_part 3 = .ok (.invokestatic 65, 3) := by decide +kernel
theorem dX9_part_6 : decode cX9_part 6 = .ok (.ifCond .eq 8, 3) := by decide +kernel
theorem dX9_part_9 : decode cX9_part 9 = .ok (.aload_n 0, 1) := by decide +kernel
theorem dX9_part_10 : decode cX9_part 10 = .ok (.invokevirtual 69, 3) := by decide +kernel
theorem dX9_part_13 : decode cX9_part 13 = .ok (.ireturn, 1) := by decide +kernel
theorem dX9_part_14 : decode cX9_part 14 = .ok (.aload_n 0, 1) := by decide +kernel
theorem dX9_part_15 : decode cX9_part 15 = .ok (.iload_n 1, 1) := by decide +kernel
theorem dX9_part_16 : decode cX9_part 16 = .ok (.invokevirtual 244, 3) := by decide +kernel
theorem dX9_part_19 : decode cX9_part 19 = .ok (.ireturn, 1) := by decide +kernel
theorem dX9_limb_0 : decode cX9_limb 0 = .ok (.iload_n 1, 1) := by decide +kernel
theorem dX9_limb_1 : decode cX9_limb 1 = .ok (.iconst 0, 1) := by decide +kernel
theorem dX9_limb_2 : decode cX9_limb 2 = .ok (.iconst 1, 1) := by decide +kernel
theorem dX9_limb_3 : decode cX9_limb 3 = .ok (.invokestatic 65, 3) := by decide +kernel
theorem dX9_limb_6 : decode cX9_limb 6 = .ok (.ifCond .ne 7, 3) := by decide +kernel
theorem dX9_limb_9 : decode cX9_limb 9 = .ok (.iload_n 2, 1) := by decide +kernel
theorem dX9_limb_10 : decode cX9_limb 10 = .ok (.ifCond .ge 8, 3) := by decide +kernel
theorem dX9_limb_13 : decode cX9_limb 13 = .ok (.aload_n 0, 1) := by decide +kernel
theorem dX9_limb_14 : decode cX9_limb 14 = .ok (.invokevirtual 69, 3) := by decide +kernel
theorem dX9_limb_17 : decode cX9_limb 17 = .ok (.ireturn, 1) := by decide +kernel
theorem dX9_limb_18 : decode cX9_limb 18 = .ok (.iload_n 1, 1) := by decide +kernel
theorem dX9_limb_19 : decode cX9_limb 19 = .ok (.ifCond .ne 13, 3) := by decide +kernel
theorem dX9_limb_22 : decode cX9_limb 22 = .ok (.aload_n 0, 1) := by decide +kernel
theorem dX9_limb_23 : decode cX9_limb 23 = .ok (.getfield 41, 3) := by decide +kernel
theorem dX9_limb_26 : decode cX9_limb 26 = .ok (.getfield 247, 3) := by decide +kernel
theorem dX9_limb_29 : decode cX9_limb 29 = .ok (.goto 10, 3) := by decide +kernel
theorem dX9_limb_32 : decode cX9_limb 32 = .ok (.aload_n 0, 1) := by decide +kernel
theorem dX9_limb_33 : decode cX9_limb 33 = .ok (.getfield 41, 3) := by decide +kernel
theorem dX9_limb_36 : decode cX9_limb 36 = .ok (.getfield 250, 3) := by decide +kernel
theorem dX9_limb_39 : decode cX9_limb 39 = .ok (.astore_n 3, 1) := by decide +kernel
theorem dX9_limb_40 : decode cX9_limb 40 = .ok (.iload_n 2, 1) := by decide +kernel
theorem dX9_limb_41 : decode cX9_limb 41 = .ok (.aload_n 3, 1) := by decide +kernel
theorem dX9_limb_42 : decode cX9_limb 42 = .ok (.getfield 253, 3) := by decide +kernel
theorem dX9_limb_45 : decode cX9_limb 45 = .ok (.if_icmp .ge 11, 3) := by decide +kernel
theorem dX9_limb_48 : decode cX9_limb 48 = .ok (.aload_n 3, 1) := by decide +kernel
theorem dX9_limb_49 : decode cX9_limb 49 = .ok (.iload_n 2, 1) := by decide +kernel
theorem dX9_limb_50 : decode cX9_limb 50 = .ok (.invokevirtual 256, 3) := by decide +kernel
theorem dX9_limb_53 : decode cX9_limb 53 = .ok (.goto 4, 3) := by decide +kernel
theorem dX9_limb_56 : decode cX9_limb 56 = .ok (.iconst (-1), 1) := by decide +kernel
theorem dX9_limb_57 : decode cX9_limb 57 = .ok (.ireturn, 1) := by decide +kernel
theorem dX9_image_0 : decode cX9_image 0 = .ok (.iload_n 1, 1) := by decide +kernel
theorem dX9_image_1 : decode cX9_image 1 = .ok (.iconst 0, 1) := by decide +kernel
theorem dX9_image_2 : decode cX9_image 2 = .ok (.iconst 1, 1) := by decide +kernel
theorem dX9_image_3 : decode cX9_image 3 = .ok (.invokestatic 65, 3) := by decide +kernel
theorem dX9_image_6 : decode cX9_image 6 = .ok (.ifCond .eq 8, 3) := by decide +kernel
theorem dX9_image_9 : decode cX9_image 9 = .ok (.aload_n 0, 1) := by decide +kernel
theorem dX9_image_10 : decode cX9_image 10 = .ok (.invokevirtual 69, 3) := by decide +kernel
theorem dX9_image_13 : decode cX9_image 13 = .ok (.ireturn, 1) := by decide +kernel
theorem dX9_image_14 : decode cX9_image 14 = .ok (.aload_n 0, 1) := by decide +kernel
theorem dX9_image_15 : decode cX9_image 15 = .ok (.getfield 30, 3) := by decide +kernel
theorem dX9_image_18 : decode cX9_image 18 = .ok (.iload_n 1, 1) := by decide +kernel
theorem dX9_image_19 : decode cX9_image 19 = .ok (.aaload, 1) := by decide +kernel
theorem dX9_image_20 : decode cX9_image 20 = .ok (.aload_n 0, 1) := by decide +kernel
theorem dX9_image_21 : decode cX9_image 21 = .ok (.getfield 27, 3) := by decide +kernel
theorem dX9_image_24 : decode cX9_image 24 = .ok (.invokevirtual 259, 3) := by decide +kernel
theorem dX9_image_27 : decode cX9_image 27 = .ok (.aload_n 0, 1) := by decide +kernel
theorem dX9_image_28 : decode cX9_image 28 = .ok (.getfield 34, 3) := by decide +kernel
theorem dX9_image_31 : decode cX9_image 31 = .ok (.iload_n 1, 1) := by decide +kernel
theorem dX9_image_32 : decode cX9_image 32 = .ok (.iconst 1, 1) := by decide +kernel
theorem dX9_image_33 : decode cX9_image 33 = .ok (.bastore, 1) := by decide +kernel
theorem dX9_image_34 : decode cX9_image 34 = .ok (.iconst 1, 1) := by decide +kernel
theorem dX9_image_35 : decode cX9_image 35 = .ok (.ireturn, 1) := by decide +kernel
theorem dX9_from_0 : decode cX9_from 0 = .ok (.iload_n 1, 1) := by decide +kernel
theorem dX9_from_1 : decode cX9_from 1 = .ok (.iconst 0, 1) := by decide +kernel
theorem dX9_from_2 : decode cX9_from 2 = .ok (.iconst 1, 1) := by decide +kernel
theorem dX9_from_3 : decode cX9_from 3 = .ok (.invokestatic 65, 3) := by decide +kernel
theorem dX9_from_6 : decode cX9_from 6 = .ok (.ifCond .eq 8, 3) := by decide +kernel
theorem dX9_from_9 : decode cX9_from 9 = .ok (.aload_n 0, 1) := by decide +kernel
theorem dX9_from_10 : decode cX9_from 10 = .ok (.invokevirtual 69, 3) := by decide +kernel
theorem dX9_from_13 : decode cX9_from 13 = .ok (.ireturn, 1) := by decide +kernel
theorem dX9_from_14 : decode cX9_from 14 = .ok (.aload_n 0, 1) := by decide +kernel
theorem dX9_from_15 : decode cX9_from 15 = .ok (.getfield 34, 3) := by decide +kernel
theorem dX9_from_18 : decode cX9_from 18 = .ok (.iload_n 1, 1) := by decide +kernel
theorem dX9_from_19 : decode cX9_from 19 = .ok (.baload, 1) := by decide +kernel
theorem dX9_from_20 : decode cX9_from 20 = .ok (.ifCond .ne 8, 3) := by decide +kernel
theorem dX9_from_23 : decode cX9_from 23 = .ok (.aload_n 0, 1) := by decide +kernel
theorem dX9_from_24 : decode cX9_from 24 = .ok (.invokevirtual 169, 3) := by decide +kernel
theorem dX9_from_27 : decode cX9_from 27 = .ok (.ireturn, 1) := by decide +kernel
theorem dX9_from_28 : decode cX9_from 28 = .ok (.aload_n 0, 1) := by decide +kernel
theorem dX9_from_29 : decode cX9_from 29 = .ok (.getfield 27, 3) := by decide +kernel
theorem dX9_from_32 : decode cX9_from 32 = .ok (.aload_n 0, 1) := by decide +kernel
theorem dX9_from_33 : decode cX9_from 33 = .ok (.getfield 30, 3) := by decide +kernel
theorem dX9_from_36 : decode cX9_from 36 = .ok (.iload_n 1, 1) := by decide +kernel
theorem dX9_from_37 : decode cX9_from 37 = .ok (.aaload, 1) := by decide +kernel
theorem dX9_from_38 : decode cX9_from 38 = .ok (.invokevirtual 259, 3) := by decide +kernel
theorem dX9_from_41 : decode cX9_from 41 = .ok (.aload_n 0, 1) := by decide +kernel
theorem dX9_from_42 : decode cX9_from 42 = .ok (.invokevirtual 84, 3) := by decide +kernel
theorem dX9_from_45 : decode cX9_from 45 = .ok (.iconst 1, 1) := by decide +kernel
theorem dX9_from_46 : decode cX9_from 46 = .ok (.ireturn, 1) := by decide +kernel
theorem dX9_status_0 : decode cX9_status 0 = .ok (.iload_n 1, 1) := by decide +kernel
theorem dX9_status_1 : decode cX9_status 1 = .ok (.tableswitch 42 0 2 #[27, 32, 37], 27) := by decide +kernel
theorem dX9_status_28 : decode cX9_status 28 = .ok (.aload_n 0, 1) := by decide +kernel
theorem dX9_status_29 : decode cX9_status 29 = .ok (.getfield 263, 3) := by decide +kernel
theorem dX9_status_32 : decode cX9_status 32 = .ok (.ireturn, 1) := by decide +kernel
theorem dX9_status_33 : decode cX9_status 33 = .ok (.aload_n 0, 1) := by decide +kernel
theorem dX9_status_34 : decode cX9_status 34 = .ok (.getfield 266, 3) := by decide +kernel
theorem dX9_status_37 : decode cX9_status 37 = .ok (.ireturn, 1) := by decide +kernel
theorem dX9_status_38 : decode cX9_status 38 = .ok (.aload_n 0, 1) := by decide +kernel
theorem dX9_status_39 : decode cX9_status 39 = .ok (.getfield 269, 3) := by decide +kernel
theorem dX9_status_42 : decode cX9_status 42 = .ok (.ireturn, 1) := by decide +kernel
theorem dX9_status_43 : decode cX9_status 43 = .ok (.aload_n 0, 1) := by decide +kernel
theorem dX9_status_44 : decode cX9_status 44 = .ok (.dup, 1) := by decide +kernel
theorem dX9_status_45 : decode cX9_status 45 = .ok (.getfield 263, 3) := by decide +kernel
theorem dX9_status_48 : decode cX9_status 48 = .ok (.iconst 1, 1) := by decide +kernel
theorem dX9_status_49 : decode cX9_status 49 = .ok (.iadd, 1) := by decide +kernel
theorem dX9_status_50 : decode cX9_status 50 = .ok (.putfield 263, 3) := by decide +kernel
theorem dX9_status_53 : decode cX9_status 53 = .ok (.iconst (-1), 1) := by decide +kernel
theorem dX9_status_54 : decode cX9_status 54 = .ok (.ireturn, 1) := by decide +kernel
theorem dX9_count_0 : decode cX9_count 0 = .ok (.iload_n 1, 1) := by decide +kernel
theorem dX9_count_1 : decode cX9_count 1 = .ok (.iconst 0, 1) := by decide +kernel
theorem dX9_count_2 : decode cX9_count 2 = .ok (.bipush 7, 2) := by decide +kernel
theorem dX9_count_4 : decode cX9_count 4 = .ok (.invokestatic 65, 3) := by decide +kernel
theorem dX9_count_7 : decode cX9_count 7 = .ok (.ifCond .eq 8, 3) := by decide +kernel
theorem dX9_count_10 : decode cX9_count 10 = .ok (.aload_n 0, 1) := by decide +kernel
theorem dX9_count_11 : decode cX9_count 11 = .ok (.invokevirtual 69, 3) := by decide +kernel
theorem dX9_count_14 : decode cX9_count 14 = .ok (.ireturn, 1) := by decide +kernel
theorem dX9_count_15 : decode cX9_count 15 = .ok (.aload_n 0, 1) := by decide +kernel
theorem dX9_count_16 : decode cX9_count 16 = .ok (.getfield 27, 3) := by decide +kernel
theorem dX9_count_19 : decode cX9_count 19 = .ok (.iload_n 1, 1) := by decide +kernel
theorem dX9_count_20 : decode cX9_count 20 = .ok (.invokevirtual 272, 3) := by decide +kernel
theorem dX9_count_23 : decode cX9_count 23 = .ok (.ireturn, 1) := by decide +kernel
theorem dX9_digest_0 : decode cX9_digest 0 = .ok (.aload_n 0, 1) := by decide +kernel
theorem dX9_digest_1 : decode cX9_digest 1 = .ok (.getfield 27, 3) := by decide +kernel
theorem dX9_digest_4 : decode cX9_digest 4 = .ok (.ldc2_w 275, 3) := by decide +kernel
theorem dX9_digest_7 : decode cX9_digest 7 = .ok (.invokevirtual 277, 3) := by decide +kernel
theorem dX9_digest_10 : decode cX9_digest 10 = .ok (.lstore_n 1, 1) := by decide +kernel
theorem dX9_digest_11 : decode cX9_digest 11 = .ok (.iconst 0, 1) := by decide +kernel
theorem dX9_digest_12 : decode cX9_digest 12 = .ok (.istore_n 3, 1) := by decide +kernel
theorem dX9_digest_13 : decode cX9_digest 13 = .ok (.iload_n 3, 1) := by decide +kernel
theorem dX9_digest_14 : decode cX9_digest 14 = .ok (.iconst 2, 1) := by decide +kernel
theorem dX9_digest_15 : decode cX9_digest 15 = .ok (.if_icmp .gt 22, 3) := by decide +kernel
theorem dX9_digest_18 : decode cX9_digest 18 = .ok (.ldc2_w 281, 3) := by decide +kernel
theorem dX9_digest_21 : decode cX9_digest 21 = .ok (.lload_n 1, 1) := by decide +kernel
theorem dX9_digest_22 : decode cX9_digest 22 = .ok (.lmul, 1) := by decide +kernel
theorem dX9_digest_23 : decode cX9_digest 23 = .ok (.aload_n 0, 1) := by decide +kernel
theorem dX9_digest_24 : decode cX9_digest 24 = .ok (.iload_n 3, 1) := by decide +kernel
theorem dX9_digest_25 : decode cX9_digest 25 = .ok (.invokevirtual 244, 3) := by decide +kernel
theorem dX9_digest_28 : decode cX9_digest 28 = .ok (.i2l, 1) := by decide +kernel
theorem dX9_digest_29 : decode cX9_digest 29 = .ok (.ladd, 1) := by decide +kernel
theorem dX9_digest_30 : decode cX9_digest 30 = .ok (.lstore_n 1, 1) := by decide +kernel
theorem dX9_digest_31 : decode cX9_digest 31 = .ok (.iinc 3 1, 3) := by decide +kernel
theorem dX9_digest_34 : decode cX9_digest 34 = .ok (.goto (-21), 3) := by decide +kernel
theorem dX9_digest_37 : decode cX9_digest 37 = .ok (.lload_n 1, 1) := by decide +kernel
theorem dX9_digest_38 : decode cX9_digest 38 = .ok (.aload_n 0, 1) := by decide +kernel
theorem dX9_digest_39 : decode cX9_digest 39 = .ok (.getfield 41, 3) := by decide +kernel
theorem dX9_digest_42 : decode cX9_digest 42 = .ok (.getfield 247, 3) := by decide +kernel
theorem dX9_digest_45 : decode cX9_digest 45 = .ok (.getfield 283, 3) := by decide +kernel
theorem dX9_digest_48 : decode cX9_digest 48 = .ok (.aload_n 0, 1) := by decide +kernel
theorem dX9_digest_49 : decode cX9_digest 49 = .ok (.getfield 41, 3) := by decide +kernel
theorem dX9_digest_52 : decode cX9_digest 52 = .ok (.getfield 247, 3) := by decide +kernel
theorem dX9_digest_55 : decode cX9_digest 55 = .ok (.getfield 253, 3) := by decide +kernel
theorem dX9_digest_58 : decode cX9_digest 58 = .ok (.invokestatic 286, 3) := by decide +kernel
theorem dX9_digest_61 : decode cX9_digest 61 = .ok (.lstore_n 1, 1) := by decide +kernel
theorem dX9_digest_62 : decode cX9_digest 62 = .ok (.lload_n 1, 1) := by decide +kernel
theorem dX9_digest_63 : decode cX9_digest 63 = .ok (.aload_n 0, 1) := by decide +kernel
theorem dX9_digest_64 : decode cX9_digest 64 = .ok (.getfield 41, 3) := by decide +kernel
theorem dX9_digest_67 : decode cX9_digest 67 = .ok (.getfield 250, 3) := by decide +kernel
theorem dX9_digest_70 : decode cX9_digest 70 = .ok (.getfield 283, 3) := by decide +kernel
theorem dX9_digest_73 : decode cX9_digest 73 = .ok (.aload_n 0, 1) := by decide +kernel
theorem dX9_digest_74 : decode cX9_digest 74 = .ok (.getfield 41, 3) := by decide +kernel
theorem dX9_digest_77 : decode cX9_digest 77 = .ok (.getfield 250, 3) := by decide +kernel
theorem dX9_digest_80 : decode cX9_digest 80 = .ok (.getfield 253, 3) := by decide +kernel
theorem dX9_digest_83 : decode cX9_digest 83 = .ok (.invokestatic 286, 3) := by decide +kernel
theorem dX9_digest_86 : decode cX9_digest 86 = .ok (.lreturn, 1) := by decide +kernel
theorem dX9_bad_0 : decode cX9_bad 0 = .ok (.aload_n 0, 1) := by decide +kernel
theorem dX9_bad_1 : decode cX9_bad 1 = .ok (.dup, 1) := by decide +kernel
theorem dX9_bad_2 : decode cX9_bad 2 = .ok (.getfield 263, 3) := by decide +kernel
theorem dX9_bad_5 : decode cX9_bad 5 = .ok (.iconst 1, 1) := by decide +kernel
theorem dX9_bad_6 : decode cX9_bad 6 = .ok (.iadd, 1) := by decide +kernel
theorem dX9_bad_7 : decode cX9_bad 7 = .ok (.putfield 263, 3) := by decide +kernel
theorem dX9_bad_10 : decode cX9_bad 10 = .ok (.bipush (-2), 2) := by decide +kernel
theorem dX9_bad_12 : decode cX9_bad 12 = .ok (.ireturn, 1) := by decide +kernel
theorem dX9_worse_0 : decode cX9_worse 0 = .ok (.aload_n 0, 1) := by decide +kernel
theorem dX9_worse_1 : decode cX9_worse 1 = .ok (.dup, 1) := by decide +kernel
theorem dX9_worse_2 : decode cX9_worse 2 = .ok (.getfield 263, 3) := by decide +kernel
theorem dX9_worse_5 : decode cX9_worse 5 = .ok (.iconst 1, 1) := by decide +kernel
theorem dX9_worse_6 : decode cX9_worse 6 = .ok (.iadd, 1) := by decide +kernel
theorem dX9_worse_7 : decode cX9_worse 7 = .ok (.putfield 263, 3) := by decide +kernel
theorem dX9_worse_10 : decode cX9_worse 10 = .ok (.bipush (-10), 2) := by decide +kernel
theorem dX9_worse_12 : decode cX9_worse 12 = .ok (.ireturn, 1) := by decide +kernel
theorem dX9_no_0 : decode cX9_no 0 = .ok (.aload_n 0, 1) := by decide +kernel
theorem dX9_no_1 : decode cX9_no 1 = .ok (.dup, 1) := by decide +kernel
theorem dX9_no_2 : decode cX9_no 2 = .ok (.getfield 266, 3) := by decide +kernel
theorem dX9_no_5 : decode cX9_no 5 = .ok (.iconst 1, 1) := by decide +kernel
theorem dX9_no_6 : decode cX9_no 6 = .ok (.iadd, 1) := by decide +kernel
theorem dX9_no_7 : decode cX9_no 7 = .ok (.putfield 266, 3) := by decide +kernel
theorem dX9_no_10 : decode cX9_no 10 = .ok (.bipush (-3), 2) := by decide +kernel
theorem dX9_no_12 : decode cX9_no 12 = .ok (.ireturn, 1) := by decide +kernel
theorem dX9_full_0 : decode cX9_full 0 = .ok (.aload_n 0, 1) := by decide +kernel
theorem dX9_full_1 : decode cX9_full 1 = .ok (.dup, 1) := by decide +kernel
theorem dX9_full_2 : decode cX9_full 2 = .ok (.getfield 269, 3) := by decide +kernel
theorem dX9_full_5 : decode cX9_full 5 = .ok (.iconst 1, 1) := by decide +kernel
theorem dX9_full_6 : decode cX9_full 6 = .ok (.iadd, 1) := by decide +kernel
theorem dX9_full_7 : decode cX9_full 7 = .ok (.putfield 269, 3) := by decide +kernel
theorem dX9_full_10 : decode cX9_full 10 = .ok (.bipush (-4), 2) := by decide +kernel
theorem dX9_full_12 : decode cX9_full 12 = .ok (.ireturn, 1) := by decide +kernel
theorem dX9_outside_0 : decode cX9_outside 0 = .ok (.iload_n 0, 1) := by decide +kernel
theorem dX9_outside_1 : decode cX9_outside 1 = .ok (.iload_n 1, 1) := by decide +kernel
theorem dX9_outside_2 : decode cX9_outside 2 = .ok (.if_icmp .lt 8, 3) := by decide +kernel
theorem dX9_outside_5 : decode cX9_outside 5 = .ok (.iload_n 0, 1) := by decide +kernel
theorem dX9_outside_6 : decode cX9_outside 6 = .ok (.iload_n 2, 1) := by decide +kernel
theorem dX9_outside_7 : decode cX9_outside 7 = .ok (.if_icmp .le 7, 3) := by decide +kernel
theorem dX9_outside_10 : decode cX9_outside 10 = .ok (.iconst 1, 1) := by decide +kernel
theorem dX9_outside_11 : decode cX9_outside 11 = .ok (.goto 4, 3) := by decide +kernel
theorem dX9_outside_14 : decode cX9_outside 14 = .ok (.iconst 0, 1) := by decide +kernel
theorem dX9_outside_15 : decode cX9_outside 15 = .ok (.ireturn, 1) := by decide +kernel
theorem dX9_noPlace_0 : decode cX9_noPlace 0 = .ok (.iload_n 1, 1) := by decide +kernel
theorem dX9_noPlace_1 : decode cX9_noPlace 1 = .ok (.iconst 0, 1) := by decide +kernel
theorem dX9_noPlace_2 : decode cX9_noPlace 2 = .ok (.aload_n 0, 1) := by decide +kernel
theorem dX9_noPlace_3 : decode cX9_noPlace 3 = .ok (.getfield 27, 3) := by decide +kernel
theorem dX9_noPlace_6 : decode cX9_noPlace 6 = .ok (.getfield 73, 3) := by decide +kernel
theorem dX9_noPlace_9 : decode cX9_noPlace 9 = .ok (.iconst 1, 1) := by decide +kernel
theorem dX9_noPlace_10 : decode cX9_noPlace 10 = .ok (.isub, 1) := by decide +kernel
theorem dX9_noPlace_11 : decode cX9_noPlace 11 = .ok (.invokestatic 65, 3) := by decide +kernel
theorem dX9_noPlace_14 : decode cX9_noPlace 14 = .ok (.ireturn, 1) := by decide +kernel
theorem dX9_noLot_0 : decode cX9_noLot 0 = .ok (.iload_n 1, 1) := by decide +kernel
theorem dX9_noLot_1 : decode cX9_noLot 1 = .ok (.iconst 0, 1) := by decide +kernel
theorem dX9_noLot_2 : decode cX9_noLot 2 = .ok (.aload_n 0, 1) := by decide +kernel
theorem dX9_noLot_3 : decode cX9_noLot 3 = .ok (.getfield 27, 3) := by decide +kernel
theorem dX9_noLot_6 : decode cX9_noLot 6 = .ok (.getfield 94, 3) := by decide +kernel
theorem dX9_noLot_9 : decode cX9_noLot 9 = .ok (.iconst 1, 1) := by decide +kernel
theorem dX9_noLot_10 : decode cX9_noLot 10 = .ok (.isub, 1) := by decide +kernel
theorem dX9_noLot_11 : decode cX9_noLot 11 = .ok (.invokestatic 65, 3) := by decide +kernel
theorem dX9_noLot_14 : decode cX9_noLot 14 = .ok (.ireturn, 1) := by decide +kernel
theorem dX9_noWhere_0 : decode cX9_noWhere 0 = .ok (.aload_n 0, 1) := by decide +kernel
theorem dX9_noWhere_1 : decode cX9_noWhere 1 = .ok (.iload_n 1, 1) := by decide +kernel
theorem dX9_noWhere_2 : decode cX9_noWhere 2 = .ok (.invokevirtual 135, 3) := by decide +kernel
theorem dX9_noWhere_5 : decode cX9_noWhere 5 = .ok (.ifCond .eq 19, 3) := by decide +kernel
theorem dX9_noWhere_8 : decode cX9_noWhere 8 = .ok (.iload_n 1, 1) := by decide +kernel
theorem dX9_noWhere_9 : decode cX9_noWhere 9 = .ok (.bipush 6, 2) := by decide +kernel
theorem dX9_noWhere_11 : decode cX9_noWhere 11 = .ok (.if_icmp .eq 13, 3) := by decide +kernel
theorem dX9_noWhere_14 : decode cX9_noWhere 14 = .ok (.iload_n 1, 1) := by decide +kernel
theorem dX9_noWhere_15 : decode cX9_noWhere 15 = .ok (.bipush 7, 2) := by decide +kernel
theorem dX9_noWhere_17 : decode cX9_noWhere 17 = .ok (.if_icmp .eq 7, 3) := by decide +kernel
theorem dX9_noWhere_20 : decode cX9_noWhere 20 = .ok (.iconst 1, 1) := by decide +kernel
theorem dX9_noWhere_21 : decode cX9_noWhere 21 = .ok (.goto 4, 3) := by decide +kernel
theorem dX9_noWhere_24 : decode cX9_noWhere 24 = .ok (.iconst 0, 1) := by decide +kernel
theorem dX9_noWhere_25 : decode cX9_noWhere 25 = .ok (.ireturn, 1) := by decide +kernel
theorem dX9_noStory_0 : decode cX9_noStory 0 = .ok (.iload_n 0, 1) := by decide +kernel
theorem dX9_noStory_1 : decode cX9_noStory 1 = .ok (.iconst 0, 1) := by decide +kernel
theorem dX9_noStory_2 : decode cX9_noStory 2 = .ok (.iconst 3, 1) := by decide +kernel
theorem dX9_noStory_3 : decode cX9_noStory 3 = .ok (.invokestatic 65, 3) := by decide +kernel
theorem dX9_noStory_6 : decode cX9_noStory 6 = .ok (.ireturn, 1) := by decide +kernel
theorem dX9_noKind_0 : decode cX9_noKind 0 = .ok (.iload_n 0, 1) := by decide +kernel
theorem dX9_noKind_1 : decode cX9_noKind 1 = .ok (.iconst 0, 1) := by decide +kernel
theorem dX9_noKind_2 : decode cX9_noKind 2 = .ok (.iconst 3, 1) := by decide +kernel
theorem dX9_noKind_3 : decode cX9_noKind 3 = .ok (.invokestatic 65, 3) := by decide +kernel
theorem dX9_noKind_6 : decode cX9_noKind 6 = .ok (.ireturn, 1) := by decide +kernel
theorem dX9_noMonth_0 : decode cX9_noMonth 0 = .ok (.iload_n 0, 1) := by decide +kernel
theorem dX9_noMonth_1 : decode cX9_noMonth 1 = .ok (.iconst 0, 1) := by decide +kernel
theorem dX9_noMonth_2 : decode cX9_noMonth 2 = .ok (.bipush 119, 2) := by decide +kernel
theorem dX9_noMonth_4 : decode cX9_noMonth 4 = .ok (.invokestatic 65, 3) := by decide +kernel
theorem dX9_noMonth_7 : decode cX9_noMonth 7 = .ok (.ireturn, 1) := by decide +kernel
theorem dX9_changed_0 : decode cX9_changed 0 = .ok (.aload_n 0, 1) := by decide +kernel
theorem dX9_changed_1 : decode cX9_changed 1 = .ok (.getfield 20, 3) := by decide +kernel
theorem dX9_changed_4 : decode cX9_changed 4 = .ok (.iconst 0, 1) := by decide +kernel
theorem dX9_changed_5 : decode cX9_changed 5 = .ok (.putfield 290, 3) := by decide +kernel
theorem dX9_changed_8 : decode cX9_changed 8 = .ok (.aload_n 0, 1) := by decide +kernel
theorem dX9_changed_9 : decode cX9_changed 9 = .ok (.getfield 10, 3) := by decide +kernel
theorem dX9_changed_12 : decode cX9_changed 12 = .ok (.iconst 0, 1) := by decide +kernel
theorem dX9_changed_13 : decode cX9_changed 13 = .ok (.putfield 294, 3) := by decide +kernel
theorem dX9_changed_16 : decode cX9_changed 16 = .ok (.return_, 1) := by decide +kernel
theorem dX9_exchange_0 : decode cX9_exchange 0 = .ok (.aload_n 1, 1) := by decide +kernel
theorem dX9_exchange_1 : decode cX9_exchange 1 = .ok (.iload_n 2, 1) := by decide +kernel
theorem dX9_exchange_2 : decode cX9_exchange 2 = .ok (.iaload, 1) := by decide +kernel
theorem dX9_exchange_3 : decode cX9_exchange 3 = .ok (.istore 4, 2) := by decide +kernel
theorem dX9_exchange_5 : decode cX9_exchange 5 = .ok (.aload_n 1, 1) := by decide +kernel
theorem dX9_exchange_6 : decode cX9_exchange 6 = .ok (.iload_n 2, 1) := by decide +kernel
theorem dX9_exchange_7 : decode cX9_exchange 7 = .ok (.iload_n 3, 1) := by decide +kernel
theorem dX9_exchange_8 : decode cX9_exchange 8 = .ok (.iastore, 1) := by decide +kernel
theorem dX9_exchange_9 : decode cX9_exchange 9 = .ok (.aload_n 0, 1) := by decide +kernel
theorem dX9_exchange_10 : decode cX9_exchange 10 = .ok (.invokevirtual 84, 3) := by decide +kernel
theorem dX9_exchange_13 : decode cX9_exchange 13 = .ok (.iload 4, 2) := by decide +kernel
theorem dX9_exchange_15 : decode cX9_exchange 15 = .ok (.ireturn, 1) := by decide +kernel
theorem dX9_hasFault_0 : decode cX9_hasFault 0 = .ok (.aload_n 0, 1) := by decide +kernel
theorem dX9_hasFault_1 : decode cX9_hasFault 1 = .ok (.getfield 20, 3) := by decide +kernel
theorem dX9_hasFault_4 : decode cX9_hasFault 4 = .ok (.invokevirtual 123, 3) := by decide +kernel
theorem dX9_hasFault_7 : decode cX9_hasFault 7 = .ok (.aload_n 0, 1) := by decide +kernel
theorem dX9_hasFault_8 : decode cX9_hasFault 8 = .ok (.getfield 20, 3) := by decide +kernel
theorem dX9_hasFault_11 : decode cX9_hasFault 11 = .ok (.getfield 126, 3) := by decide +kernel
theorem dX9_hasFault_14 : decode cX9_hasFault 14 = .ok (.iload_n 1, 1) := by decide +kernel
theorem dX9_hasFault_15 : decode cX9_hasFault 15 = .ok (.aaload, 1) := by decide +kernel
theorem dX9_hasFault_16 : decode cX9_hasFault 16 = .ok (.getfield 130, 3) := by decide +kernel
theorem dX9_hasFault_19 : decode cX9_hasFault 19 = .ok (.iconst (-1), 1) := by decide +kernel
theorem dX9_hasFault_20 : decode cX9_hasFault 20 = .ok (.if_icmp .eq 7, 3) := by decide +kernel
theorem dX9_hasFault_23 : decode cX9_hasFault 23 = .ok (.iconst 1, 1) := by decide +kernel
theorem dX9_hasFault_24 : decode cX9_hasFault 24 = .ok (.goto 4, 3) := by decide +kernel
theorem dX9_hasFault_27 : decode cX9_hasFault 27 = .ok (.iconst 0, 1) := by decide +kernel
theorem dX9_hasFault_28 : decode cX9_hasFault 28 = .ok (.ireturn, 1) := by decide +kernel
theorem dX9_noWorlds_0 : decode cX9_noWorlds 0 = .ok (.aload_n 0, 1) := by decide +kernel
theorem dX9_noWorlds_1 : decode cX9_noWorlds 1 = .ok (.getfield 27, 3) := by decide +kernel
theorem dX9_noWorlds_4 : decode cX9_noWorlds 4 = .ok (.getfield 73, 3) := by decide +kernel
theorem dX9_noWorlds_7 : decode cX9_noWorlds 7 = .ok (.ifCond .ne 5, 3) := by decide +kernel
theorem dX9_noWorlds_10 : decode cX9_noWorlds 10 = .ok (.iconst 1, 1) := by decide +kernel
theorem dX9_noWorlds_11 : decode cX9_noWorlds 11 = .ok (.ireturn, 1) := by decide +kernel
theorem dX9_noWorlds_12 : decode cX9_noWorlds 12 = .ok (.aload_n 0, 1) := by decide +kernel
theorem dX9_noWorlds_13 : decode cX9_noWorlds 13 = .ok (.getfield 20, 3) := by decide +kernel
theorem dX9_noWorlds_16 : decode cX9_noWorlds 16 = .ok (.invokevirtual 123, 3) := by decide +kernel
theorem dX9_noWorlds_19 : decode cX9_noWorlds 19 = .ok (.aload_n 0, 1) := by decide +kernel
theorem dX9_noWorlds_20 : decode cX9_noWorlds 20 = .ok (.getfield 10, 3) := by decide +kernel
theorem dX9_noWorlds_23 : decode cX9_noWorlds 23 = .ok (.invokevirtual 295, 3) := by decide +kernel
theorem dX9_noWorlds_26 : decode cX9_noWorlds 26 = .ok (.aload_n 0, 1) := by decide +kernel
theorem dX9_noWorlds_27 : decode cX9_noWorlds 27 = .ok (.getfield 10, 3) := by decide +kernel
theorem dX9_noWorlds_30 : decode cX9_noWorlds 30 = .ok (.getfield 296, 3) := by decide +kernel
theorem dX9_noWorlds_33 : decode cX9_noWorlds 33 = .ok (.invokevirtual 299, 3) := by decide +kernel
theorem dX9_noWorlds_36 : decode cX9_noWorlds 36 = .ok (.ireturn, 1) := by decide +kernel
theorem dX9_answerShare_0 : decode cX9_answerShare 0 = .ok (.aload_n 0, 1) := by decide +kernel
theorem dX9_answerShare_1 : decode cX9_answerShare 1 = .ok (.getfield 41, 3) := by decide +kernel
theorem dX9_answerShare_4 : decode cX9_answerShare 4 = .ok (.aload_n 1, 1) := by decide +kernel
theorem dX9_answerShare_5 : decode cX9_answerShare 5 = .ok (.aload_n 0, 1) := by decide +kernel
theorem dX9_answerShare_6 : decode cX9_answerShare 6 = .ok (.getfield 10, 3) := by decide +kernel
theorem dX9_answerShare_9 : decode cX9_answerShare 9 = .ok (.getfield 296, 3) := by decide +kernel
theorem dX9_answerShare_12 : decode cX9_answerShare 12 = .ok (.invokevirtual 231, 3) := by decide +kernel
theorem dX9_answerShare_15 : decode cX9_answerShare 15 = .ok (.iconst 1, 1) := by decide +kernel
theorem dX9_answerShare_16 : decode cX9_answerShare 16 = .ok (.ireturn, 1) := by decide +kernel
theorem dX9_partOf_0 : decode cX9_partOf 0 = .ok (.iload_n 1, 1) := by decide +kernel
theorem dX9_partOf_1 : decode cX9_partOf 1 = .ok (.ifCond .ne 22, 3) := by decide +kernel
theorem dX9_partOf_4 : decode cX9_partOf 4 = .ok (.aload_n 0, 1) := by decide +kernel
theorem dX9_partOf_5 : decode cX9_partOf 5 = .ok (.getfield 41, 3) := by decide +kernel
theorem dX9_partOf_8 : decode cX9_partOf 8 = .ok (.getfield 247, 3) := by decide +kernel
theorem dX9_partOf_11 : decode cX9_partOf 11 = .ok (.invokevirtual 299, 3) := by decide +kernel
theorem dX9_partOf_14 : decode cX9_partOf 14 = .ok (.ifCond .eq 7, 3) := by decide +kernel
theorem dX9_partOf_17 : decode cX9_partOf 17 = .ok (.iconst 0, 1) := by decide +kernel
theorem dX9_partOf_18 : decode cX9_partOf 18 = .ok (.goto 4, 3) := by decide +kernel
theorem dX9_partOf_21 : decode cX9_partOf 21 = .ok (.iconst 1, 1) := by decide +kernel
theorem dX9_partOf_22 : decode cX9_partOf 22 = .ok (.ireturn, 1) := by decide +kernel
theorem dX9_partOf_23 : decode cX9_partOf 23 = .ok (.iload_n 1, 1) := by decide +kernel
theorem dX9_partOf_24 : decode cX9_partOf 24 = .ok (.iconst 1, 1) := by decide +kernel
theorem dX9_partOf_25 : decode cX9_partOf 25 = .ok (.if_icmp .ne 16, 3) := by decide +kernel
theorem dX9_partOf_28 : decode cX9_partOf 28 = .ok (.aload_n 0, 1) := by decide +kernel
theorem dX9_partOf_29 : decode cX9_partOf 29 = .ok (.getfield 41, 3) := by decide +kernel
theorem dX9_partOf_32 : decode cX9_partOf 32 = .ok (.getfield 247, 3) := by decide +kernel
theorem dX9_partOf_35 : decode cX9_partOf 35 = .ok (.getfield 253, 3) := by decide +kernel
theorem dX9_partOf_38 : decode cX9_partOf 38 = .ok (.goto 13, 3) := by decide +kernel
theorem dX9_partOf_41 : decode cX9_partOf 41 = .ok (.aload_n 0, 1) := by decide +kernel
theorem dX9_partOf_42 : decode cX9_partOf 42 = .ok (.getfield 41, 3) := by decide +kernel
theorem dX9_partOf_45 : decode cX9_partOf 45 = .ok (.getfield 250, 3) := by decide +kernel
theorem dX9_partOf_48 : decode cX9_partOf 48 = .ok (.getfield 253, 3) := by decide +kernel
theorem dX9_partOf_51 : decode cX9_partOf 51 = .ok (.ireturn, 1) := by decide +kernel
theorem dX9_rightLetters_0 : decode cX9_rightLetters 0 = .ok (.lconst 1, 1) := by decide +kernel
theorem dX9_rightLetters_1 : decode cX9_rightLetters 1 = .ok (.lstore_n 3, 1) := by decide +kernel
theorem dX9_rightLetters_2 : decode cX9_rightLetters 2 = .ok (.iconst 0, 1) := by decide +kernel
theorem dX9_rightLetters_3 : decode cX9_rightLetters 3 = .ok (.istore 5, 2) := by decide +kernel
theorem dX9_rightLetters_5 : decode cX9_rightLetters 5 = .ok (.iload 5, 2) := by decide +kernel
theorem dX9_rightLetters_7 : decode cX9_rightLetters 7 = .ok (.iload_n 0, 1) := by decide +kernel
theorem dX9_rightLetters_8 : decode cX9_rightLetters 8 = .ok (.if_icmp .ge 28, 3) := by decide +kernel
theorem dX9_rightLetters_11 : decode cX9_rightLetters 11 = .ok (.lload_n 3, 1) := by decide +kernel
theorem dX9_rightLetters_12 : decode cX9_rightLetters 12 = .ok (.iload 5, 2) := by decide +kernel
theorem dX9_rightLetters_14 : decode cX9_rightLetters 14 = .ok (.iload_n 1, 1) := by decide +kernel
theorem dX9_rightLetters_15 : decode cX9_rightLetters 15 = .ok (.if_icmp .ge 8, 3) := by decide +kernel
theorem dX9_rightLetters_18 : decode cX9_rightLetters 18 = .ok (.iload_n 2, 1) := by decide +kernel
theorem dX9_rightLetters_19 : decode cX9_rightLetters 19 = .ok (.i2l, 1) := by decide +kernel
theorem dX9_rightLetters_20 : decode cX9_rightLetters 20 = .ok (.goto 8, 3) := by decide +kernel
theorem dX9_rightLetters_23 : decode cX9_rightLetters 23 = .ok (.bipush 10, 2) := by decide +kernel
theorem dX9_rightLetters_25 : decode cX9_rightLetters 25 = .ok (.iload_n 2, 1) := by decide +kernel
theorem dX9_rightLetters_26 : decode cX9_rightLetters 26 = .ok (.isub, 1) := by decide +kernel
theorem dX9_rightLetters_27 : decode cX9_rightLetters 27 = .ok (.i2l, 1) := by decide +kernel
theorem dX9_rightLetters_28 : decode cX9_rightLetters 28 = .ok (.lmul, 1) := by decide +kernel
theorem dX9_rightLetters_29 : decode cX9_rightLetters 29 = .ok (.lstore_n 3, 1) := by decide +kernel
theorem dX9_rightLetters_30 : decode cX9_rightLetters 30 = .ok (.iinc 5 1, 3) := by decide +kernel
theorem dX9_rightLetters_33 : decode cX9_rightLetters 33 = .ok (.goto (-28), 3) := by decide +kernel
theorem dX9_rightLetters_36 : decode cX9_rightLetters 36 = .ok (.lload_n 3, 1) := by decide +kernel
theorem dX9_rightLetters_37 : decode cX9_rightLetters 37 = .ok (.lreturn, 1) := by decide +kernel
theorem dX9_digestRow_0 : decode cX9_digestRow 0 = .ok (.lload_n 0, 1) := by decide +kernel
theorem dX9_digestRow_1 : decode cX9_digestRow 1 = .ok (.lstore 4, 2) := by decide +kernel
theorem dX9_digestRow_3 : decode cX9_digestRow 3 = .ok (.iconst 0, 1) := by decide +kernel
theorem dX9_digestRow_4 : decode cX9_digestRow 4 = .ok (.istore 6, 2) := by decide +kernel
theorem dX9_digestRow_6 : decode cX9_digestRow 6 = .ok (.iload 6, 2) := by decide +kernel
theorem dX9_digestRow_8 : decode cX9_digestRow 8 = .ok (.iload_n 3, 1) := by decide +kernel
theorem dX9_digestRow_9 : decode cX9_digestRow 9 = .ok (.if_icmp .ge 30, 3) := by decide +kernel
theorem dX9_digestRow_12 : decode cX9_digestRow 12 = .ok (.iload 6, 2) := by decide +kernel
theorem dX9_digestRow_14 : decode cX9_digestRow 14 = .ok (.aload_n 2, 1) := by decide +kernel
theorem dX9_digestRow_15 : decode cX9_digestRow 15 = .ok (.arraylength, 1) := by decide +kernel
theorem dX9_digestRow_16 : decode cX9_digestRow 16 = .ok (.if_icmp .ge 23, 3) := by decide +kernel
theorem dX9_digestRow_19 : decode cX9_digestRow 19 = .ok (.ldc2_w 281, 3) := by decide +kernel
theorem dX9_digestRow_22 : decode cX9_digestRow 22 = .ok (.lload 4, 2) := by decide +kernel
theorem dX9_digestRow_24 : decode cX9_digestRow 24 = .ok (.lmul, 1) := by decide +kernel
theorem dX9_digestRow_25 : decode cX9_digestRow 25 = .ok (.aload_n 2, 1) := by decide +kernel
theorem dX9_digestRow_26 : decode cX9_digestRow 26 = .ok (.iload 6, 2) := by decide +kernel
theorem dX9_digestRow_28 : decode cX9_digestRow 28 = .ok (.iaload, 1) := by decide +kernel
theorem dX9_digestRow_29 : decode cX9_digestRow 29 = .ok (.i2l, 1) := by decide +kernel
theorem dX9_digestRow_30 : decode cX9_digestRow 30 = .ok (.ladd, 1) := by decide +kernel
theorem dX9_digestRow_31 : decode cX9_digestRow 31 = .ok (.lstore 4, 2) := by decide +kernel
theorem dX9_digestRow_33 : decode cX9_digestRow 33 = .ok (.iinc 6 1, 3) := by decide +kernel
theorem dX9_digestRow_36 : decode cX9_digestRow 36 = .ok (.goto (-30), 3) := by decide +kernel
theorem dX9_digestRow_39 : decode cX9_digestRow 39 = .ok (.lload 4, 2) := by decide +kernel
theorem dX9_digestRow_41 : decode cX9_digestRow 41 = .ok (.lreturn, 1) := by decide +kernel
