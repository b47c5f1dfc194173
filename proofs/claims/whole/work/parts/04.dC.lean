theorem dX10_init_0 : decode cX10_init 0 = .ok (.aload_n 0, 1) := by decide +kernel
theorem dX10_init_1 : decode cX10_init 1 = .ok (.invokespecial 1, 3) := by decide +kernel
theorem dX10_init_4 : decode cX10_init 4 = .ok (.aload_n 0, 1) := by decide +kernel
theorem dX10_init_5 : decode cX10_init 5 = .ok (.sipush 675, 3) := by decide +kernel
theorem dX10_init_8 : decode cX10_init 8 = .ok (.newarray .int, 2) := by decide +kernel
theorem dX10_init_10 : decode cX10_init 10 = .ok (.putfield 7, 3) := by decide +kernel
theorem dX10_init_13 : decode cX10_init 13 = .ok (.aload_n 0, 1) := by decide +kernel
theorem dX10_init_14 : decode cX10_init 14 = .ok (.sipush 1350, 3) := by decide +kernel
theorem dX10_init_17 : decode cX10_init 17 = .ok (.newarray .int, 2) := by decide +kernel
theorem dX10_init_19 : decode cX10_init 19 = .ok (.putfield 13, 3) := by decide +kernel
theorem dX10_init_22 : decode cX10_init 22 = .ok (.aload_n 0, 1) := by decide +kernel
theorem dX10_init_23 : decode cX10_init 23 = .ok (.iconst 2, 1) := by decide +kernel
theorem dX10_init_24 : decode cX10_init 24 = .ok (.newarray .boolean, 2) := by decide +kernel
theorem dX10_init_26 : decode cX10_init 26 = .ok (.putfield 16, 3) := by decide +kernel
theorem dX10_init_29 : decode cX10_init 29 = .ok (.aload_n 0, 1) := by decide +kernel
theorem dX10_init_30 : decode cX10_init 30 = .ok (.iconst 3, 1) := by decide +kernel
theorem dX10_init_31 : decode cX10_init 31 = .ok (.newarray .int, 2) := by decide +kernel
theorem dX10_init_33 : decode cX10_init 33 = .ok (.putfield 20, 3) := by decide +kernel
theorem dX10_init_36 : decode cX10_init 36 = .ok (.aload_n 0, 1) := by decide +kernel
theorem dX10_init_37 : decode cX10_init 37 = .ok (.sipush 768, 3) := by decide +kernel
theorem dX10_init_40 : decode cX10_init 40 = .ok (.newarray .long, 2) := by decide +kernel
theorem dX10_init_42 : decode cX10_init 42 = .ok (.putfield 23, 3) := by decide +kernel
theorem dX10_init_45 : decode cX10_init 45 = .ok (.aload_n 0, 1) := by decide +kernel
theorem dX10_init_46 : decode cX10_init 46 = .ok (.bipush 12, 2) := by decide +kernel
theorem dX10_init_48 : decode cX10_init 48 = .ok (.newarray .int, 2) := by decide +kernel
theorem dX10_init_50 : decode cX10_init 50 = .ok (.putfield 27, 3) := by decide +kernel
theorem dX10_init_53 : decode cX10_init 53 = .ok (.aload_n 0, 1) := by decide +kernel
theorem dX10_init_54 : decode cX10_init 54 = .ok (.sipush 480, 3) := by decide +kernel
theorem dX10_init_57 : decode cX10_init 57 = .ok (.newarray .int, 2) := by decide +kernel
theorem dX10_init_59 : decode cX10_init 59 = .ok (.putfield 30, 3) := by decide +kernel
theorem dX10_init_62 : decode cX10_init 62 = .ok (.aload_n 0, 1) := by decide +kernel
theorem dX10_init_63 : decode cX10_init 63 = .ok (.iconst 4, 1) := by decide +kernel
theorem dX10_init_64 : decode cX10_init 64 = .ok (.newarray .int, 2) := by decide +kernel
theorem dX10_init_66 : decode cX10_init 66 = .ok (.putfield 33, 3) := by decide +kernel
theorem dX10_init_69 : decode cX10_init 69 = .ok (.aload_n 0, 1) := by decide +kernel
theorem dX10_init_70 : decode cX10_init 70 = .ok (.iconst 4, 1) := by decide +kernel
theorem dX10_init_71 : decode cX10_init 71 = .ok (.newarray .boolean, 2) := by decide +kernel
theorem dX10_init_73 : decode cX10_init 73 = .ok (.putfield 36, 3) := by decide +kernel
theorem dX10_init_76 : decode cX10_init 76 = .ok (.aload_n 0, 1) := by decide +kernel
theorem dX10_init_77 : decode cX10_init 77 = .ok (.iconst 4, 1) := by decide +kernel
theorem dX10_init_78 : decode cX10_init 78 = .ok (.newarray .boolean, 2) := by decide +kernel
theorem dX10_init_80 : decode cX10_init 80 = .ok (.putfield 39, 3) := by decide +kernel
theorem dX10_init_83 : decode cX10_init 83 = .ok (.aload_n 0, 1) := by decide +kernel
theorem dX10_init_84 : decode cX10_init 84 = .ok (.iconst 4, 1) := by decide +kernel
theorem dX10_init_85 : decode cX10_init 85 = .ok (.newarray .int, 2) := by decide +kernel
theorem dX10_init_87 : decode cX10_init 87 = .ok (.putfield 42, 3) := by decide +kernel
theorem dX10_init_90 : decode cX10_init 90 = .ok (.aload_n 0, 1) := by decide +kernel
theorem dX10_init_91 : decode cX10_init 91 = .ok (.iconst 4, 1) := by decide +kernel
theorem dX10_init_92 : decode cX10_init 92 = .ok (.newarray .boolean, 2) := by decide +kernel
theorem dX10_init_94 : decode cX10_init 94 = .ok (.putfield 45, 3) := by decide +kernel
theorem dX10_init_97 : decode cX10_init 97 = .ok (.aload_n 0, 1) := by decide +kernel
theorem dX10_init_98 : decode cX10_init 98 = .ok (.bipush 6, 2) := by decide +kernel
theorem dX10_init_100 : decode cX10_init 100 = .ok (.newarray .int, 2) := by decide +kernel
theorem dX10_init_102 : decode cX10_init 102 = .ok (.putfield 48, 3) := by decide +kernel
theorem dX10_init_105 : decode cX10_init 105 = .ok (.iconst 0, 1) := by decide +kernel
theorem dX10_init_106 : decode cX10_init 106 = .ok (.istore_n 1, 1) := by decide +kernel
theorem dX10_init_107 : decode cX10_init 107 = .ok (.iload_n 1, 1) := by decide +kernel
theorem dX10_init_108 : decode cX10_init 108 = .ok (.bipush 10, 2) := by decide +kernel
theorem dX10_init_110 : decode cX10_init 110 = .ok (.if_icmp .ge 19, 3) := by decide +kernel
theorem dX10_init_113 : decode cX10_init 113 = .ok (.aload_n 0, 1) := by decide +kernel
theorem dX10_init_114 : decode cX10_init 114 = .ok (.getfield 7, 3) := by decide +kernel
theorem dX10_init_117 : decode cX10_init 117 = .ok (.bipush 6, 2) := by decide +kernel
theorem dX10_init_119 : decode cX10_init 119 = .ok (.iload_n 1, 1) := by decide +kernel
theorem dX10_init_120 : decode cX10_init 120 = .ok (.iadd, 1) := by decide +kernel
theorem dX10_init_121 : decode cX10_init 121 = .ok (.iconst 5, 1) := by decide +kernel
theorem dX10_init_122 : decode cX10_init 122 = .ok (.iastore, 1) := by decide +kernel
theorem dX10_init_123 : decode cX10_init 123 = .ok (.iinc 1 1, 3) := by decide +kernel
theorem dX10_init_126 : decode cX10_init 126 = .ok (.goto (-19), 3) := by decide +kernel
theorem dX10_init_129 : decode cX10_init 129 = .ok (.aload_n 0, 1) := by decide +kernel
theorem dX10_init_130 : decode cX10_init 130 = .ok (.getfield 7, 3) := by decide +kernel
theorem dX10_init_133 : decode cX10_init 133 = .ok (.bipush 20, 2) := by decide +kernel
theorem dX10_init_135 : decode cX10_init 135 = .ok (.bipush 6, 2) := by decide +kernel
theorem dX10_init_137 : decode cX10_init 137 = .ok (.iastore, 1) := by decide +kernel
theorem dX10_init_138 : decode cX10_init 138 = .ok (.aload_n 0, 1) := by decide +kernel
theorem dX10_init_139 : decode cX10_init 139 = .ok (.getfield 7, 3) := by decide +kernel
theorem dX10_init_142 : decode cX10_init 142 = .ok (.bipush 21, 2) := by decide +kernel
theorem dX10_init_144 : decode cX10_init 144 = .ok (.bipush 9, 2) := by decide +kernel
theorem dX10_init_146 : decode cX10_init 146 = .ok (.iastore, 1) := by decide +kernel
theorem dX10_init_147 : decode cX10_init 147 = .ok (.iconst 0, 1) := by decide +kernel
theorem dX10_init_148 : decode cX10_init 148 = .ok (.istore_n 1, 1) := by decide +kernel
theorem dX10_init_149 : decode cX10_init 149 = .ok (.iload_n 1, 1) := by decide +kernel
theorem dX10_init_150 : decode cX10_init 150 = .ok (.iconst 4, 1) := by decide +kernel
theorem dX10_init_151 : decode cX10_init 151 = .ok (.if_icmp .ge 30, 3) := by decide +kernel
theorem dX10_init_154 : decode cX10_init 154 = .ok (.aload_n 0, 1) := by decide +kernel
theorem dX10_init_155 : decode cX10_init 155 = .ok (.getfield 7, 3) := by decide +kernel
theorem dX10_init_158 : decode cX10_init 158 = .ok (.bipush 22, 2) := by decide +kernel
theorem dX10_init_160 : decode cX10_init 160 = .ok (.iload_n 1, 1) := by decide +kernel
theorem dX10_init_161 : decode cX10_init 161 = .ok (.iadd, 1) := by decide +kernel
theorem dX10_init_162 : decode cX10_init 162 = .ok (.bipush 100, 2) := by decide +kernel
theorem dX10_init_164 : decode cX10_init 164 = .ok (.iastore, 1) := by decide +kernel
theorem dX10_init_165 : decode cX10_init 165 = .ok (.aload_n 0, 1) := by decide +kernel
theorem dX10_init_166 : decode cX10_init 166 = .ok (.getfield 7, 3) := by decide +kernel
theorem dX10_init_169 : decode cX10_init 169 = .ok (.bipush 30, 2) := by decide +kernel
theorem dX10_init_171 : decode cX10_init 171 = .ok (.iload_n 1, 1) := by decide +kernel
theorem dX10_init_172 : decode cX10_init 172 = .ok (.iadd, 1) := by decide +kernel
theorem dX10_init_173 : decode cX10_init 173 = .ok (.iconst 1, 1) := by decide +kernel
theorem dX10_init_174 : decode cX10_init 174 = .ok (.iastore, 1) := by decide +kernel
theorem dX10_init_175 : decode cX10_init 175 = .ok (.iinc 1 1, 3) := by decide +kernel
theorem dX10_init_178 : decode cX10_init 178 = .ok (.goto (-29), 3) := by decide +kernel
theorem dX10_init_181 : decode cX10_init 181 = .ok (.aload_n 0, 1) := by decide +kernel
theorem dX10_init_182 : decode cX10_init 182 = .ok (.getfield 7, 3) := by decide +kernel
theorem dX10_init_185 : decode cX10_init 185 = .ok (.sipush 543, 3) := by decide +kernel
theorem dX10_init_188 : decode cX10_init 188 = .ok (.iconst (-1), 1) := by decide +kernel
theorem dX10_init_189 : decode cX10_init 189 = .ok (.iastore, 1) := by decide +kernel
theorem dX10_init_190 : decode cX10_init 190 = .ok (.aload_n 0, 1) := by decide +kernel
theorem dX10_init_191 : decode cX10_init 191 = .ok (.iconst 1, 1) := by decide +kernel
theorem dX10_init_192 : decode cX10_init 192 = .ok (.lconst 1, 1) := by decide +kernel
theorem dX10_init_193 : decode cX10_init 193 = .ok (.invokevirtual 51, 3) := by decide +kernel
theorem dX10_init_196 : decode cX10_init 196 = .ok (.return_, 1) := by decide +kernel
theorem dX10_in_0 : decode cX10_in 0 = .ok (.lload_n 0, 1) := by decide +kernel
theorem dX10_in_1 : decode cX10_in 1 = .ok (.lload_n 2, 1) := by decide +kernel
theorem dX10_in_2 : decode cX10_in 2 = .ok (.lcmp, 1) := by decide +kernel
theorem dX10_in_3 : decode cX10_in 3 = .ok (.ifCond .lt 14, 3) := by decide +kernel
theorem dX10_in_6 : decode cX10_in 6 = .ok (.lload_n 0, 1) := by decide +kernel
theorem dX10_in_7 : decode cX10_in 7 = .ok (.lload 4, 2) := by decide +kernel
theorem dX10_in_9 : decode cX10_in 9 = .ok (.lcmp, 1) := by decide +kernel
theorem dX10_in_10 : decode cX10_in 10 = .ok (.ifCond .gt 7, 3) := by decide +kernel
theorem dX10_in_13 : decode cX10_in 13 = .ok (.iconst 1, 1) := by decide +kernel
theorem dX10_in_14 : decode cX10_in 14 = .ok (.goto 4, 3) := by decide +kernel
theorem dX10_in_17 : decode cX10_in 17 = .ok (.iconst 0, 1) := by decide +kernel
theorem dX10_in_18 : decode cX10_in 18 = .ok (.ireturn, 1) := by decide +kernel
theorem dX10_bad_0 : decode cX10_bad 0 = .ok (.aload_n 0, 1) := by decide +kernel
theorem dX10_bad_1 : decode cX10_bad 1 = .ok (.getfield 20, 3) := by decide +kernel
theorem dX10_bad_4 : decode cX10_bad 4 = .ok (.iconst 0, 1) := by decide +kernel
theorem dX10_bad_5 : decode cX10_bad 5 = .ok (.dup2, 1) := by decide +kernel
theorem dX10_bad_6 : decode cX10_bad 6 = .ok (.iaload, 1) := by decide +kernel
theorem dX10_bad_7 : decode cX10_bad 7 = .ok (.iconst 1, 1) := by decide +kernel
theorem dX10_bad_8 : decode cX10_bad 8 = .ok (.iadd, 1) := by decide +kernel
theorem dX10_bad_9 : decode cX10_bad 9 = .ok (.iastore, 1) := by decide +kernel
theorem dX10_bad_10 : decode cX10_bad 10 = .ok (.iload_n 1, 1) := by decide +kernel
theorem dX10_bad_11 : decode cX10_bad 11 = .ok (.ireturn, 1) := by decide +kernel
theorem dX10_no_0 : decode cX10_no 0 = .ok (.aload_n 0, 1) := by decide +kernel
theorem dX10_no_1 : decode cX10_no 1 = .ok (.getfield 20, 3) := by decide +kernel
theorem dX10_no_4 : decode cX10_no 4 = .ok (.iconst 1, 1) := by decide +kernel
theorem dX10_no_5 : decode cX10_no 5 = .ok (.dup2, 1) := by decide +kernel
theorem dX10_no_6 : decode cX10_no 6 = .ok (.iaload, 1) := by decide +kernel
theorem dX10_no_7 : decode cX10_no 7 = .ok (.iconst 1, 1) := by decide +kernel
theorem dX10_no_8 : decode cX10_no 8 = .ok (.iadd, 1) := by decide +kernel
theorem dX10_no_9 : decode cX10_no 9 = .ok (.iastore, 1) := by decide +kernel
theorem dX10_no_10 : decode cX10_no 10 = .ok (.bipush (-3), 2) := by decide +kernel
theorem dX10_no_12 : decode cX10_no 12 = .ok (.ireturn, 1) := by decide +kernel
theorem dX10_full_0 : decode cX10_full 0 = .ok (.aload_n 0, 1) := by decide +kernel
theorem dX10_full_1 : decode cX10_full 1 = .ok (.getfield 20, 3) := by decide +kernel
theorem dX10_full_4 : decode cX10_full 4 = .ok (.iconst 2, 1) := by decide +kernel
theorem dX10_full_5 : decode cX10_full 5 = .ok (.dup2, 1) := by decide +kernel
theorem dX10_full_6 : decode cX10_full 6 = .ok (.iaload, 1) := by decide +kernel
theorem dX10_full_7 : decode cX10_full 7 = .ok (.iconst 1, 1) := by decide +kernel
theorem dX10_full_8 : decode cX10_full 8 = .ok (.iadd, 1) := by decide +kernel
theorem dX10_full_9 : decode cX10_full 9 = .ok (.iastore, 1) := by decide +kernel
theorem dX10_full_10 : decode cX10_full 10 = .ok (.bipush (-4), 2) := by decide +kernel
theorem dX10_full_12 : decode cX10_full 12 = .ok (.ireturn, 1) := by decide +kernel
theorem dX10_set_0 : decode cX10_set 0 = .ok (.lload_n 2, 1) := by decide +kernel
theorem dX10_set_1 : decode cX10_set 1 = .ok (.lstore 4, 2) := by decide +kernel
theorem dX10_set_3 : decode cX10_set 3 = .ok (.aload_n 0, 1) := by decide +kernel
theorem dX10_set_4 : decode cX10_set 4 = .ok (.getfield 27, 3) := by decide +kernel
theorem dX10_set_7 : decode cX10_set 7 = .ok (.iload_n 1, 1) := by decide +kernel
theorem dX10_set_8 : decode cX10_set 8 = .ok (.iconst 0, 1) := by decide +kernel
theorem dX10_set_9 : decode cX10_set 9 = .ok (.iastore, 1) := by decide +kernel
theorem dX10_set_10 : decode cX10_set 10 = .ok (.lload 4, 2) := by decide +kernel
theorem dX10_set_12 : decode cX10_set 12 = .ok (.lconst 0, 1) := by decide +kernel
theorem dX10_set_13 : decode cX10_set 13 = .ok (.lcmp, 1) := by decide +kernel
theorem dX10_set_14 : decode cX10_set 14 = .ok (.ifCond .le 46, 3) := by decide +kernel
theorem dX10_set_17 : decode cX10_set 17 = .ok (.aload_n 0, 1) := by decide +kernel
theorem dX10_set_18 : decode cX10_set 18 = .ok (.getfield 23, 3) := by decide +kernel
theorem dX10_set_21 : decode cX10_set 21 = .ok (.bipush 64, 2) := by decide +kernel
theorem dX10_set_23 : decode cX10_set 23 = .ok (.iload_n 1, 1) := by decide +kernel
theorem dX10_set_24 : decode cX10_set 24 = .ok (.imul, 1) := by decide +kernel
theorem dX10_set_25 : decode cX10_set 25 = .ok (.aload_n 0, 1) := by decide +kernel
theorem dX10_set_26 : decode cX10_set 26 = .ok (.getfield 27, 3) := by decide +kernel
theorem dX10_set_29 : decode cX10_set 29 = .ok (.iload_n 1, 1) := by decide +kernel
theorem dX10_set_30 : decode cX10_set 30 = .ok (.iaload, 1) := by decide +kernel
theorem dX10_set_31 : decode cX10_set 31 = .ok (.iadd, 1) := by decide +kernel
theorem dX10_set_32 : decode cX10_set 32 = .ok (.lload 4, 2) := by decide +kernel
theorem dX10_set_34 : decode cX10_set 34 = .ok (.ldc2_w 55, 3) := by decide +kernel
theorem dX10_set_37 : decode cX10_set 37 = .ok (.lrem, 1) := by decide +kernel
theorem dX10_set_38 : decode cX10_set 38 = .ok (.lastore, 1) := by decide +kernel
theorem dX10_set_39 : decode cX10_set 39 = .ok (.lload 4, 2) := by decide +kernel
theorem dX10_set_41 : decode cX10_set 41 = .ok (.ldc2_w 55, 3) := by decide +kernel
theorem dX10_set_44 : decode cX10_set 44 = .ok (.ldiv, 1) := by decide +kernel
theorem dX10_set_45 : decode cX10_set 45 = .ok (.lstore 4, 2) := by decide +kernel
theorem dX10_set_47 : decode cX10_set 47 = .ok (.aload_n 0, 1) := by decide +kernel
theorem dX10_set_48 : decode cX10_set 48 = .ok (.getfield 27, 3) := by decide +kernel
theorem dX10_set_51 : decode cX10_set 51 = .ok (.iload_n 1, 1) := by decide +kernel
theorem dX10_set_52 : decode cX10_set 52 = .ok (.dup2, 1) := by decide +kernel
theorem dX10_set_53 : decode cX10_set 53 = .ok (.iaload, 1) := by decide +kernel
theorem dX10_set_54 : decode cX10_set 54 = .ok (.iconst 1, 1) := by decide +kernel
theorem dX10_set_55 : decode cX10_set 55 = .ok (.iadd, 1) := by decide +kernel
theorem dX10_set_56 : decode cX10_set 56 = .ok (.iastore, 1) := by decide +kernel
theorem dX10_set_57 : decode cX10_set 57 = .ok (.goto (-47), 3) := by decide +kernel
theorem dX10_set_60 : decode cX10_set 60 = .ok (.return_, 1) := by decide +kernel
theorem dX10_copy_0 : decode cX10_copy 0 = .ok (.iconst 0, 1) := by decide +kernel
theorem dX10_copy_1 : decode cX10_copy 1 = .ok (.istore_n 3, 1) := by decide +kernel
theorem dX10_copy_2 : decode cX10_copy 2 = .ok (.iload_n 3, 1) := by decide +kernel
theorem dX10_copy_3 : decode cX10_copy 3 = .ok (.aload_n 0, 1) := by decide +kernel
theorem dX10_copy_4 : decode cX10_copy 4 = .ok (.getfield 27, 3) := by decide +kernel
theorem dX10_copy_7 : decode cX10_copy 7 = .ok (.iload_n 2, 1) := by decide +kernel
theorem dX10_copy_8 : decode cX10_copy 8 = .ok (.iaload, 1) := by decide +kernel
theorem dX10_copy_9 : decode cX10_copy 9 = .ok (.if_icmp .ge 31, 3) := by decide +kernel
theorem dX10_copy_12 : decode cX10_copy 12 = .ok (.aload_n 0, 1) := by decide +kernel
theorem dX10_copy_13 : decode cX10_copy 13 = .ok (.getfield 23, 3) := by decide +kernel
theorem dX10_copy_16 : decode cX10_copy 16 = .ok (.bipush 64, 2) := by decide +kernel
theorem dX10_copy_18 : decode cX10_copy 18 = .ok (.iload_n 1, 1) := by decide +kernel
theorem dX10_copy_19 : decode cX10_copy 19 = .ok (.imul, 1) := by decide +kernel
theorem dX10_copy_20 : decode cX10_copy 20 = .ok (.iload_n 3, 1) := by decide +kernel
theorem dX10_copy_21 : decode cX10_copy 21 = .ok (.iadd, 1) := by decide +kernel
theorem dX10_copy_22 : decode cX10_copy 22 = .ok (.aload_n 0, 1) := by decide +kernel
theorem dX10_copy_23 : decode cX10_copy 23 = .ok (.getfield 23, 3) := by decide +kernel
theorem dX10_copy_26 : decode cX10_copy 26 = .ok (.bipush 64, 2) := by decide +kernel
theorem dX10_copy_28 : decode cX10_copy 28 = .ok (.iload_n 2, 1) := by decide +kernel
theorem dX10_copy_29 : decode cX10_copy 29 = .ok (.imul, 1) := by decide +kernel
theorem dX10_copy_30 : decode cX10_copy 30 = .ok (.iload_n 3, 1) := by decide +kernel
theorem dX10_copy_31 : decode cX10_copy 31 = .ok (.iadd, 1) := by decide +kernel
theorem dX10_copy_32 : decode cX10_copy 32 = .ok (.laload, 1) := by decide +kernel
theorem dX10_copy_33 : decode cX10_copy 33 = .ok (.lastore, 1) := by decide +kernel
theorem dX10_copy_34 : decode cX10_copy 34 = .ok (.iinc 3 1, 3) := by decide +kernel
theorem dX10_copy_37 : decode cX10_copy 37 = .ok (.goto (-35), 3) := by decide +kernel
theorem dX10_copy_40 : decode cX10_copy 40 = .ok (.aload_n 0, 1) := by decide +kernel
theorem dX10_copy_41 : decode cX10_copy 41 = .ok (.getfield 27, 3) := by decide +kernel
theorem dX10_copy_44 : decode cX10_copy 44 = .ok (.iload_n 1, 1) := by decide +kernel
theorem dX10_copy_45 : decode cX10_copy 45 = .ok (.aload_n 0, 1) := by decide +kernel
theorem dX10_copy_46 : decode cX10_copy 46 = .ok (.getfield 27, 3) := by decide +kernel
theorem dX10_copy_49 : decode cX10_copy 49 = .ok (.iload_n 2, 1) := by decide +kernel
theorem dX10_copy_50 : decode cX10_copy 50 = .ok (.iaload, 1) := by decide +kernel
theorem dX10_copy_51 : decode cX10_copy 51 = .ok (.iastore, 1) := by decide +kernel
theorem dX10_copy_52 : decode cX10_copy 52 = .ok (.return_, 1) := by decide +kernel
theorem dX10_trim_0 : decode cX10_trim 0 = .ok (.aload_n 0, 1) := by decide +kernel
theorem dX10_trim_1 : decode cX10_trim 1 = .ok (.getfield 27, 3) := by decide +kernel
theorem dX10_trim_4 : decode cX10_trim 4 = .ok (.iload_n 1, 1) := by decide +kernel
theorem dX10_trim_5 : decode cX10_trim 5 = .ok (.iaload, 1) := by decide +kernel
theorem dX10_trim_6 : decode cX10_trim 6 = .ok (.ifCond .le 39, 3) := by decide +kernel
theorem dX10_trim_9 : decode cX10_trim 9 = .ok (.aload_n 0, 1) := by decide +kernel
theorem dX10_trim_10 : decode cX10_trim 10 = .ok (.getfield 23, 3) := by decide +kernel
theorem dX10_trim_13 : decode cX10_trim 13 = .ok (.bipush 64, 2) := by decide +kernel
theorem dX10_trim_15 : decode cX10_trim 15 = .ok (.iload_n 1, 1) := by decide +kernel
theorem dX10_trim_16 : decode cX10_trim 16 = .ok (.imul, 1) := by decide +kernel
theorem dX10_trim_17 : decode cX10_trim 17 = .ok (.aload_n 0, 1) := by decide +kernel
theorem dX10_trim_18 : decode cX10_trim 18 = .ok (.getfield 27, 3) := by decide +kernel
theorem dX10_trim_21 : decode cX10_trim 21 = .ok (.iload_n 1, 1) := by decide +kernel
theorem dX10_trim_22 : decode cX10_trim 22 = .ok (.iaload, 1) := by decide +kernel
theorem dX10_trim_23 : decode cX10_trim 23 = .ok (.iadd, 1) := by decide +kernel
theorem dX10_trim_24 : decode cX10_trim 24 = .ok (.iconst 1, 1) := by decide +kernel
theorem dX10_trim_25 : decode cX10_trim 25 = .ok (.isub, 1) := by decide +kernel
theorem dX10_trim_26 : decode cX10_trim 26 = .ok (.laload, 1) := by decide +kernel
theorem dX10_trim_27 : decode cX10_trim 27 = .ok (.lconst 0, 1) := by decide +kernel
theorem dX10_trim_28 : decode cX10_trim 28 = .ok (.lcmp, 1) := by decide +kernel
theorem dX10_trim_29 : decode cX10_trim 29 = .ok (.ifCond .ne 16, 3) := by decide +kernel
theorem dX10_trim_32 : decode cX10_trim 32 = .ok (.aload_n 0, 1) := by decide +kernel
theorem dX10_trim_33 : decode cX10_trim 33 = .ok (.getfield 27, 3) := by decide +kernel
theorem dX10_trim_36 : decode cX10_trim 36 = .ok (.iload_n 1, 1) := by decide +kernel
theorem dX10_trim_37 : decode cX10_trim 37 = .ok (.dup2, 1) := by decide +kernel
theorem dX10_trim_38 : decode cX10_trim 38 = .ok (.iaload, 1) := by decide +kernel
theorem dX10_trim_39 : decode cX10_trim 39 = .ok (.iconst 1, 1) := by decide +kernel
theorem dX10_trim_40 : decode cX10_trim 40 = .ok (.isub, 1) := by decide +kernel
theorem dX10_trim_41 : decode cX10_trim 41 = .ok (.iastore, 1) := by decide +kernel
theorem dX10_trim_42 : decode cX10_trim 42 = .ok (.goto (-42), 3) := by decide +kernel
theorem dX10_trim_45 : decode cX10_trim 45 = .ok (.return_, 1) := by decide +kernel
theorem dX10_times_0 : decode cX10_times 0 = .ok (.lconst 0, 1) := by decide +kernel
theorem dX10_times_1 : decode cX10_times 1 = .ok (.lstore 4, 2) := by decide +kernel
theorem dX10_times_3 : decode cX10_times 3 = .ok (.iconst 0, 1) := by decide +kernel
theorem dX10_times_4 : decode cX10_times 4 = .ok (.istore 6, 2) := by decide +kernel
theorem dX10_times_6 : decode cX10_times 6 = .ok (.iload 6, 2) := by decide +kernel
theorem dX10_times_8 : decode cX10_times 8 = .ok (.aload_n 0, 1) := by decide +kernel
theorem dX10_times_9 : decode cX10_times 9 = .ok (.getfield 27, 3) := by decide +kernel
theorem dX10_times_12 : decode cX10_times 12 = .ok (.iload_n 1, 1) := by decide +kernel
theorem dX10_times_13 : decode cX10_times 13 = .ok (.iaload, 1) := by decide +kernel
theorem dX10_times_14 : decode cX10_times 14 = .ok (.if_icmp .ge 54, 3) := by decide +kernel
theorem dX10_times_17 : decode cX10_times 17 = .ok (.aload_n 0, 1) := by decide +kernel
theorem dX10_times_18 : decode cX10_times 18 = .ok (.getfield 23, 3) := by decide +kernel
theorem dX10_times_21 : decode cX10_times 21 = .ok (.bipush 64, 2) := by decide +kernel
theorem dX10_times_23 : decode cX10_times 23 = .ok (.iload_n 1, 1) := by decide +kernel
theorem dX10_times_24 : decode cX10_times 24 = .ok (.imul, 1) := by decide +kernel
theorem dX10_times_25 : decode cX10_times 25 = .ok (.iload 6, 2) := by decide +kernel
theorem dX10_times_27 : decode cX10_times 27 = .ok (.iadd, 1) := by decide +kernel
theorem dX10_times_28 : decode cX10_times 28 = .ok (.laload, 1) := by decide +kernel
theorem dX10_times_29 : decode cX10_times 29 = .ok (.lload_n 2, 1) := by decide +kernel
theorem dX10_times_30 : decode cX10_times 30 = .ok (.lmul, 1) := by decide +kernel
theorem dX10_times_31 : decode cX10_times 31 = .ok (.lload 4, 2) := by decide +kernel
theorem dX10_times_33 : decode cX10_times 33 = .ok (.ladd, 1) := by decide +kernel
theorem dX10_times_34 : decode cX10_times 34 = .ok (.lstore 7, 2) := by decide +kernel
theorem dX10_times_36 : decode cX10_times 36 = .ok (.aload_n 0, 1) := by decide +kernel
theorem dX10_times_37 : decode cX10_times 37 = .ok (.getfield 23, 3) := by decide +kernel
theorem dX10_times_40 : decode cX10_times 40 = .ok (.bipush 64, 2) := by decide +kernel
theorem dX10_times_42 : decode cX10_times 42 = .ok (.iload_n 1, 1) := by decide +kernel
theorem dX10_times_43 : decode cX10_times 43 = .ok (.imul, 1) := by decide +kernel
theorem dX10_times_44 : decode cX10_times 44 = .ok (.iload 6, 2) := by decide +kernel
theorem dX10_times_46 : decode cX10_times 46 = .ok (.iadd, 1) := by decide +kernel
theorem dX10_times_47 : decode cX10_times 47 = .ok (.lload 7, 2) := by decide +kernel
theorem dX10_times_49 : decode cX10_times 49 = .ok (.ldc2_w 55, 3) := by decide +kernel
theorem dX10_times_52 : decode cX10_times 52 = .ok (.lrem, 1) := by decide +kernel
theorem dX10_times_53 : decode cX10_times 53 = .ok (.lastore, 1) := by decide +kernel
theorem dX10_times_54 : decode cX10_times 54 = .ok (.lload 7, 2) := by decide +kernel
theorem dX10_times_56 : decode cX10_times 56 = .ok (.ldc2_w 55, 3) := by decide +kernel
theorem dX10_times_59 : decode cX10_times 59 = .ok (.ldiv, 1) := by decide +kernel
theorem dX10_times_60 : decode cX10_times 60 = .ok (.lstore 4, 2) := by decide +kernel
theorem dX10_times_62 : decode cX10_times 62 = .ok (.iinc 6 1, 3) := by decide +kernel
theorem dX10_times_65 : decode cX10_times 65 = .ok (.goto (-59), 3) := by decide +kernel
theorem dX10_times_68 : decode cX10_times 68 = .ok (.lload 4, 2) := by decide +kernel
theorem dX10_times_70 : decode cX10_times 70 = .ok (.lconst 0, 1) := by decide +kernel
theorem dX10_times_71 : decode cX10_times 71 = .ok (.lcmp, 1) := by decide +kernel
theorem dX10_times_72 : decode cX10_times 72 = .ok (.ifCond .le 31, 3) := by decide +kernel
theorem dX10_times_75 : decode cX10_times 75 = .ok (.aload_n 0, 1) := by decide +kernel
theorem dX10_times_76 : decode cX10_times 76 = .ok (.getfield 23, 3) := by decide +kernel
theorem dX10_times_79 : decode cX10_times 79 = .ok (.bipush 64, 2) := by decide +kernel
theorem dX10_times_81 : decode cX10_times 81 = .ok (.iload_n 1, 1) := by decide +kernel
theorem dX10_times_82 : decode cX10_times 82 = .ok (.imul, 1) := by decide +kernel
theorem dX10_times_83 : decode cX10_times 83 = .ok (.aload_n 0, 1) := by decide +kernel
theorem dX10_times_84 : decode cX10_times 84 = .ok (.getfield 27, 3) := by decide +kernel
theorem dX10_times_87 : decode cX10_times 87 = .ok (.iload_n 1, 1) := by decide +kernel
theorem dX10_times_88 : decode cX10_times 88 = .ok (.iaload, 1) := by decide +kernel
theorem dX10_times_89 : decode cX10_times 89 = .ok (.iadd, 1) := by decide +kernel
theorem dX10_times_90 : decode cX10_times 90 = .ok (.lload 4, 2) := by decide +kernel
theorem dX10_times_92 : decode cX10_times 92 = .ok (.lastore, 1) := by decide +kernel
theorem dX10_times_93 : decode cX10_times 93 = .ok (.aload_n 0, 1) := by decide +kernel
theorem dX10_times_94 : decode cX10_times 94 = .ok (.getfield 27, 3) := by decide +kernel
theorem dX10_times_97 : decode cX10_times 97 = .ok (.iload_n 1, 1) := by decide +kernel
theorem dX10_times_98 : decode cX10_times 98 = .ok (.dup2, 1) := by decide +kernel
theorem dX10_times_99 : decode cX10_times 99 = .ok (.iaload, 1) := by decide +kernel
theorem dX10_times_100 : decode cX10_times 100 = .ok (.iconst 1, 1) := by decide +kernel
theorem dX10_times_101 : decode cX10_times 101 = .ok (.iadd, 1) := by decide +kernel
theorem dX10_times_102 : decode cX10_times 102 = .ok (.iastore, 1) := by decide +kernel
theorem dX10_times_103 : decode cX10_times 103 = .ok (.aload_n 0, 1) := by decide +kernel
theorem dX10_times_104 : decode cX10_times 104 = .ok (.iload_n 1, 1) := by decide +kernel
theorem dX10_times_105 : decode cX10_times 105 = .ok (.invokevirtual 57, 3) := by decide +kernel
theorem dX10_times_108 : decode cX10_times 108 = .ok (.return_, 1) := by decide +kernel
theorem dX10_product_0 : decode cX10_product 0 = .ok (.aload_n 0, 1) := by decide +kernel
theorem dX10_product_1 : decode cX10_product 1 = .ok (.getfield 27, 3) := by decide +kernel
theorem dX10_product_4 : decode cX10_product 4 = .ok (.iload_n 2, 1) := by decide +kernel
theorem dX10_product_5 : decode cX10_product 5 = .ok (.iaload, 1) := by decide +kernel
theorem dX10_product_6 : decode cX10_product 6 = .ok (.aload_n 0, 1) := by decide +kernel
theorem dX10_product_7 : decode cX10_product 7 = .ok (.getfield 27, 3) := by decide +kernel
theorem dX10_product_10 : decode cX10_product 10 = .ok (.iload_n 3, 1) := by decide +kernel
theorem dX10_product_11 : decode cX10_product 11 = .ok (.iaload, 1) := by decide +kernel
theorem dX10_product_12 : decode cX10_product 12 = .ok (.iadd, 1) := by decide +kernel
theorem dX10_product_13 : decode cX10_product 13 = .ok (.istore 4, 2) := by decide +kernel
theorem dX10_product_15 : decode cX10_product 15 = .ok (.iconst 0, 1) := by decide +kernel
theorem dX10_product_16 : decode cX10_product 16 = .ok (.istore 5, 2) := by decide +kernel
theorem dX10_product_18 : decode cX10_product 18 = .ok (.iload 5, 2) := by decide +kernel
theorem dX10_product_20 : decode cX10_product 20 = .ok (.iload 4, 2) := by decide +kernel
theorem dX10_product_22 : decode cX10_product 22 = .ok (.if_icmp .ge 22, 3) := by decide +kernel
theorem dX10_product_25 : decode cX10_product 25 = .ok (.aload_n 0, 1) := by decide +kernel
theorem dX10_product_26 : decode cX10_product 26 = .ok (.getfield 23, 3) := by decide +kernel
theorem dX10_product_29 : decode cX10_product 29 = .ok (.bipush 64, 2) := by decide +kernel
theorem dX10_product_31 : decode cX10_product 31 = .ok (.iload_n 1, 1) := by decide +kernel
theorem dX10_product_32 : decode cX10_product 32 = .ok (.imul, 1) := by decide +kernel
theorem dX10_product_33 : decode cX10_product 33 = .ok (.iload 5, 2) := by decide +kernel
theorem dX10_product_35 : decode cX10_product 35 = .ok (.iadd, 1) := by decide +kernel
theorem dX10_product_36 : decode cX10_product 36 = .ok (.lconst 0, 1) := by decide +kernel
theorem dX10_product_37 : decode cX10_product 37 = .ok (.lastore, 1) := by decide +kernel
theorem dX10_product_38 : decode cX10_product 38 = .ok (.iinc 5 1, 3) := by decide +kernel
theorem dX10_product_41 : decode cX10_product 41 = .ok (.goto (-23), 3) := by decide +kernel
theorem dX10_product_44 : decode cX10_product 44 = .ok (.iconst 0, 1) := by decide +kernel
theorem dX10_product_45 : decode cX10_product 45 = .ok (.istore 5, 2) := by decide +kernel
theorem dX10_product_47 : decode cX10_product 47 = .ok (.iload 5, 2) := by decide +kernel
theorem dX10_product_49 : decode cX10_product 49 = .ok (.aload_n 0, 1) := by decide +kernel
theorem dX10_product_50 : decode cX10_product 50 = .ok (.getfield 27, 3) := by decide +kernel
theorem dX10_product_53 : decode cX10_product 53 = .ok (.iload_n 2, 1) := by decide +kernel
theorem dX10_product_54 : decode cX10_product 54 = .ok (.iaload, 1) := by decide +kernel
theorem dX10_product_55 : decode cX10_product 55 = .ok (.if_icmp .ge 124, 3) := by decide +kernel
theorem dX10_product_58 : decode cX10_product 58 = .ok (.lconst 0, 1) := by decide +kernel
theorem dX10_product_59 : decode cX10_product 59 = .ok (.lstore 6, 2) := by decide +kernel
theorem dX10_product_61 : decode cX10_product 61 = .ok (.iconst 0, 1) := by decide +kernel
theorem dX10_product_62 : decode cX10_product 62 = .ok (.istore 8, 2) := by decide +kernel
theorem dX10_product_64 : decode cX10_product 64 = .ok (.iload 8, 2) := by decide +kernel
theorem dX10_product_66 : decode cX10_product 66 = .ok (.aload_n 0, 1) := by decide +kernel
theorem dX10_product_67 : decode cX10_product 67 = .ok (.getfield 27, 3) := by decide +kernel
theorem dX10_product_70 : decode cX10_product 70 = .ok (.iload_n 3, 1) := by decide +kernel
theorem dX10_product_71 : decode cX10_product 71 = .ok (.iaload, 1) := by decide +kernel
theorem dX10_product_72 : decode cX10_product 72 = .ok (.if_icmp .ge 80, 3) := by decide +kernel
theorem dX10_product_75 : decode cX10_product 75 = .ok (.bipush 64, 2) := by decide +kernel
theorem dX10_product_77 : decode cX10_product 77 = .ok (.iload_n 1, 1) := by decide +kernel
theorem dX10_product_78 : decode cX10_product 78 = .ok (.imul, 1) := by decide +kernel
theorem dX10_product_79 : decode cX10_product 79 = .ok (.iload 5, 2) := by decide +kernel
theorem dX10_product_81 : decode cX10_product 81 = .ok (.iadd, 1) := by decide +kernel
theorem dX10_product_82 : decode cX10_product 82 = .ok (.iload 8, 2) := by decide +kernel
theorem dX10_product_84 : decode cX10_product 84 = .ok (.iadd, 1) := by decide +kernel
theorem dX10_product_85 : decode cX10_product 85 = .ok (.istore 9, 2) := by decide +kernel
theorem dX10_product_87 : decode cX10_product 87 = .ok (.aload_n 0, 1) := by decide +kernel
theorem dX10_product_88 : decode cX10_product 88 = .ok (.getfield 23, 3) := by decide +kernel
theorem dX10_product_91 : decode cX10_product 91 = .ok (.bipush 64, 2) := by decide +kernel
theorem dX10_product_93 : decode cX10_product 93 = .ok (.iload_n 2, 1) := by decide +kernel
theorem dX10_product_94 : decode cX10_product 94 = .ok (.imul, 1) := by decide +kernel
theorem dX10_product_95 : decode cX10_product 95 = .ok (.iload 5, 2) := by decide +kernel
theorem dX10_product_97 : decode cX10_product 97 = .ok (.iadd, 1) := by decide +kernel
theorem dX10_product_98 : decode cX10_product 98 = .ok (.laload, 1) := by decide +kernel
theorem dX10_product_99 : decode cX10_product 99 = .ok (.aload_n 0, 1) := by decide +kernel
theorem dX10_product_100 : decode cX10_product 100 = .ok (.getfield 23, 3) := by decide +kernel
theorem dX10_product_103 : decode cX10_product 103 = .ok (.bipush 64, 2) := by decide +kernel
theorem dX10_product_105 : decode cX10_product 105 = .ok (.iload_n 3, 1) := by decide +kernel
theorem dX10_product_106 : decode cX10_product 106 = .ok (.imul, 1) := by decide +kernel
theorem dX10_product_107 : decode cX10_product 107 = .ok (.iload 8, 2) := by decide +kernel
theorem dX10_product_109 : decode cX10_product 109 = .ok (.iadd, 1) := by decide +kernel
theorem dX10_product_110 : decode cX10_product 110 = .ok (.laload, 1) := by decide +kernel
theorem dX10_product_111 : decode cX10_product 111 = .ok (.lmul, 1) := by decide +kernel
theorem dX10_product_112 : decode cX10_product 112 = .ok (.aload_n 0, 1) := by decide +kernel
theorem dX10_product_113 : decode cX10_product 113 = .ok (.getfield 23, 3) := by decide +kernel
theorem dX10_product_116 : decode cX10_product 116 = .ok (.iload 9, 2) := by decide +kernel
theorem dX10_product_118 : decode cX10_product 118 = .ok (.laload, 1) := by decide +kernel
theorem dX10_product_119 : decode cX10_product 119 = .ok (.ladd, 1) := by decide +kernel
theorem dX10_product_120 : decode cX10_product 120 = .ok (.lload 6, 2) := by decide +kernel
theorem dX10_product_122 : decode cX10_product 122 = .ok (.ladd, 1) := by decide +kernel
theorem dX10_product_123 : decode cX10_product 123 = .ok (.lstore 10, 2) := by decide +kernel
theorem dX10_product_125 : decode cX10_product 125 = .ok (.aload_n 0, 1) := by decide +kernel
theorem dX10_product_126 : decode cX10_product 126 = .ok (.getfield 23, 3) := by decide +kernel
theorem dX10_product_129 : decode cX10_product 129 = .ok (.iload 9, 2) := by decide +kernel
theorem dX10_product_131 : decode cX10_product 131 = .ok (.lload 10, 2) := by decide +kernel
theorem dX10_product_133 : decode cX10_product 133 = .ok (.ldc2_w 55, 3) := by decide +kernel
theorem dX10_product_136 : decode cX10_product 136 = .ok (.lrem, 1) := by decide +kernel
theorem dX10_product_137 : decode cX10_product 137 = .ok (.lastore, 1) := by decide +kernel
theorem dX10_product_138 : decode cX10_product 138 = .ok (.lload 10, 2) := by decide +kernel
theorem dX10_product_140 : decode cX10_product 140 = .ok (.ldc2_w 55, 3) := by decide +kernel
theorem dX10_product_143 : decode cX10_product 143 = .ok (.ldiv, 1) := by decide +kernel
theorem dX10_product_144 : decode cX10_product 144 = .ok (.lstore 6, 2) := by decide +kernel
theorem dX10_product_146 : decode cX10_product 146 = .ok (.iinc 8 1, 3) := by decide +kernel
theorem dX10_product_149 : decode cX10_product 149 = .ok (.goto (-85), 3) := by decide +kernel
theorem dX10_product_152 : decode cX10_product 152 = .ok (.aload_n 0, 1) := by decide +kernel
theorem dX10_product_153 : decode cX10_product 153 = .ok (.getfield 23, 3) := by decide +kernel
theorem dX10_product_156 : decode cX10_product 156 = .ok (.bipush 64, 2) := by decide +kernel
theorem dX10_product_158 : decode cX10_product 158 = .ok (.iload_n 1, 1) := by decide +kernel
theorem dX10_product_159 : decode cX10_product 159 = .ok (.imul, 1) := by decide +kernel
theorem dX10_product_160 : decode cX10_product 160 = .ok (.iload 5, 2) := by decide +kernel
theorem dX10_product_162 : decode cX10_product 162 = .ok (.iadd, 1) := by decide +kernel
theorem dX10_product_163 : decode cX10_product 163 = .ok (.aload_n 0, 1) := by decide +kernel
theorem dX10_product_164 : decode cX10_product 164 = .ok (.getfield 27, 3) := by decide +kernel
theorem dX10_product_167 : decode cX10_product 167 = .ok (.iload_n 3, 1) := by decide +kernel
theorem dX10_product_168 : decode cX10_product 168 = .ok (.iaload, 1) := by decide +kernel
theorem dX10_product_169 : decode cX10_product 169 = .ok (.iadd, 1) := by decide +kernel
theorem dX10_product_170 : decode cX10_product 170 = .ok (.lload 6, 2) := by decide +kernel
theorem dX10_product_172 : decode cX10_product 172 = .ok (.lastore, 1) := by decide +kernel
theorem dX10_product_173 : decode cX10_product 173 = .ok (.iinc 5 1, 3) := by decide +kernel
theorem dX10_product_176 : decode cX10_product 176 = .ok (.goto (-129), 3) := by decide +kernel
theorem dX10_product_179 : decode cX10_product 179 = .ok (.aload_n 0, 1) := by decide +kernel
theorem dX10_product_180 : decode cX10_product 180 = .ok (.getfield 27, 3) := by decide +kernel
theorem dX10_product_183 : decode cX10_product 183 = .ok (.iload_n 1, 1) := by decide +kernel
theorem dX10_product_184 : decode cX10_product 184 = .ok (.iload 4, 2) := by decide +kernel
theorem dX10_product_186 : decode cX10_product 186 = .ok (.iastore, 1) := by decide +kernel
theorem dX10_product_187 : decode cX10_product 187 = .ok (.aload_n 0, 1) := by decide +kernel
theorem dX10_product_188 : decode cX10_product 188 = .ok (.iload_n 1, 1) := by decide +kernel
theorem dX10_product_189 : decode cX10_product 189 = .ok (.invokevirtual 57, 3) := by decide +kernel
theorem dX10_product_192 : decode cX10_product 192 = .ok (.return_, 1) := by decide +kernel
theorem dX10_compare_0 : decode cX10_compare 0 = .ok (.aload_n 0, 1) := by decide +kernel
theorem dX10_compare_1 : decode cX10_compare 1 = .ok (.getfield 27, 3) := by decide +kernel
theorem dX10_compare_4 : decode cX10_compare 4 = .ok (.iload_n 1, 1) := by decide +kernel
theorem dX10_compare_5 : decode cX10_compare 5 = .ok (.iaload, 1) := by decide +kernel
theorem dX10_compare_6 : decode cX10_compare 6 = .ok (.aload_n 0, 1) := by decide +kernel
theorem dX10_compare_7 : decode cX10_compare 7 = .ok (.getfield 27, 3) := by decide +kernel
theorem dX10_compare_10 : decode cX10_compare 10 = .ok (.iload_n 2, 1) := by decide +kernel
theorem dX10_compare_11 : decode cX10_compare 11 = .ok (.iaload, 1) := by decide +kernel
theorem dX10_compare_12 : decode cX10_compare 12 = .ok (.if_icmp .eq 24, 3) := by decide +kernel
theorem dX10_compare_15 : decode cX10_compare 15 = .ok (.aload_n 0, 1) := by decide +kernel
theorem dX10_compare_16 : decode cX10_compare 16 = .ok (.getfield 27, 3) := by decide +kernel
theorem dX10_compare_19 : decode cX10_compare 19 = .ok (.iload_n 1, 1) := by decide +kernel
theorem dX10_compare_20 : decode cX10_compare 20 = .ok (.iaload, 1) := by decide +kernel
theorem dX10_compare_21 : decode cX10_compare 21 = .ok (.aload_n 0, 1) := by decide +kernel
theorem dX10_compare_22 : decode cX10_compare 22 = .ok (.getfield 27, 3) := by decide +kernel
theorem dX10_compare_25 : decode cX10_compare 25 = .ok (.iload_n 2, 1) := by decide +kernel
theorem dX10_compare_26 : decode cX10_compare 26 = .ok (.iaload, 1) := by decide +kernel
theorem dX10_compare_27 : decode cX10_compare 27 = .ok (.if_icmp .ge 7, 3) := by decide +kernel
theorem dX10_compare_30 : decode cX10_compare 30 = .ok (.iconst (-1), 1) := by decide +kernel
theorem dX10_compare_31 : decode cX10_compare 31 = .ok (.goto 4, 3) := by decide +kernel
theorem dX10_compare_34 : decode cX10_compare 34 = .ok (.iconst 1, 1) := by decide +kernel
theorem dX10_compare_35 : decode cX10_compare 35 = .ok (.ireturn, 1) := by decide +kernel
theorem dX10_compare_36 : decode cX10_compare 36 = .ok (.aload_n 0, 1) := by decide +kernel
theorem dX10_compare_37 : decode cX10_compare 37 = .ok (.getfield 27, 3) := by decide +kernel
theorem dX10_compare_40 : decode cX10_compare 40 = .ok (.iload_n 1, 1) := by decide +kernel
theorem dX10_compare_41 : decode cX10_compare 41 = .ok (.iaload, 1) := by decide +kernel
theorem dX10_compare_42 : decode cX10_compare 42 = .ok (.iconst 1, 1) := by decide +kernel
theorem dX10_compare_43 : decode cX10_compare 43 = .ok (.isub, 1) := by decide +kernel
theorem dX10_compare_44 : decode cX10_compare 44 = .ok (.istore_n 3, 1) := by decide +kernel
theorem dX10_compare_45 : decode cX10_compare 45 = .ok (.iload_n 3, 1) := by decide +kernel
theorem dX10_compare_46 : decode cX10_compare 46 = .ok (.ifCond .lt 54, 3) := by decide +kernel
theorem dX10_compare_49 : decode cX10_compare 49 = .ok (.aload_n 0, 1) := by decide +kernel
theorem dX10_compare_50 : decode cX10_compare 50 = .ok (.getfield 23, 3) := by decide +kernel
theorem dX10_compare_53 : decode cX10_compare 53 = .ok (.bipush 64, 2) := by decide +kernel
theorem dX10_compare_55 : decode cX10_compare 55 = .ok (.iload_n 1, 1) := by decide +kernel
theorem dX10_compare_56 : decode cX10_compare 56 = .ok (.imul, 1) := by decide +kernel
theorem dX10_compare_57 : decode cX10_compare 57 = .ok (.iload_n 3, 1) := by decide +kernel
theorem dX10_compare_58 : decode cX10_compare 58 = .ok (.iadd, 1) := by decide +kernel
theorem dX10_compare_59 : decode cX10_compare 59 = .ok (.laload, 1) := by decide +kernel
theorem dX10_compare_60 : decode cX10_compare 60 = .ok (.aload_n 0, 1) := by decide +kernel
theorem dX10_compare_61 : decode cX10_compare 61 = .ok (.getfield 23, 3) := by decide +kernel
theorem dX10_compare_64 : decode cX10_compare 64 = .ok (.bipush 64, 2) := by decide +kernel
theorem dX10_compare_66 : decode cX10_compare 66 = .ok (.iload_n 2, 1) := by decide +kernel
theorem dX10_compare_67 : decode cX10_compare 67 = .ok (.imul, 1) := by decide +kernel
theorem dX10_compare_68 : decode cX10_compare 68 = .ok (.iload_n 3, 1) := by decide +kernel
theorem dX10_compare_69 : decode cX10_compare 69 = .ok (.iadd, 1) := by decide +kernel
theorem dX10_compare_70 : decode cX10_compare 70 = .ok (.laload, 1) := by decide +kernel
theorem dX10_compare_71 : decode cX10_compare 71 = .ok (.lsub, 1) := by decide +kernel
theorem dX10_compare_72 : decode cX10_compare 72 = .ok (.lstore 4, 2) := by decide +kernel
theorem dX10_compare_74 : decode cX10_compare 74 = .ok (.lload 4, 2) := by decide +kernel
theorem dX10_compare_76 : decode cX10_compare 76 = .ok (.lconst 0, 1) := by decide +kernel
theorem dX10_compare_77 : decode cX10_compare 77 = .ok (.lcmp, 1) := by decide +kernel
theorem dX10_compare_78 : decode cX10_compare 78 = .ok (.ifCond .eq 16, 3) := by decide +kernel
theorem dX10_compare_81 : decode cX10_compare 81 = .ok (.lload 4, 2) := by decide +kernel
theorem dX10_compare_83 : decode cX10_compare 83 = .ok (.lconst 0, 1) := by decide +kernel
theorem dX10_compare_84 : decode cX10_compare 84 = .ok (.lcmp, 1) := by decide +kernel
theorem dX10_compare_85 : decode cX10_compare 85 = .ok (.ifCond .ge 7, 3) := by decide +kernel
theorem dX10_compare_88 : decode cX10_compare 88 = .ok (.iconst (-1), 1) := by decide +kernel
theorem dX10_compare_89 : decode cX10_compare 89 = .ok (.goto 4, 3) := by decide +kernel
theorem dX10_compare_92 : decode cX10_compare 92 = .ok (.iconst 1, 1) := by decide +kernel
theorem dX10_compare_93 : decode cX10_compare 93 = .ok (.ireturn, 1) := by decide +kernel
theorem dX10_compare_94 : decode cX10_compare 94 = .ok (.iinc 3 (-1), 3) := by decide +kernel
theorem dX10_compare_97 : decode cX10_compare 97 = .ok (.goto (-52), 3) := by decide +kernel
theorem dX10_compare_100 : decode cX10_compare 100 = .ok (.iconst 0, 1) := by decide +kernel
theorem dX10_compare_101 : decode cX10_compare 101 = .ok (.ireturn, 1) := by decide +kernel
theorem dX10_add_0 : decode cX10_add 0 = .ok (.lconst 0, 1) := by decide +kernel
theorem dX10_add_1 : decode cX10_add 1 = .ok (.lstore_n 3, 1) := by decide +kernel
theorem dX10_add_2 : decode cX10_add 2 = .ok (.aload_n 0, 1) := by decide +kernel
theorem dX10_add_3 : decode cX10_add 3 = .ok (.getfield 27, 3) := by decide +kernel
theorem dX10_add_6 : decode cX10_add 6 = .ok (.iload_n 1, 1) := by decide +kernel
theorem dX10_add_7 : decode cX10_add 7 = .ok (.iaload, 1) := by decide +kernel
theorem dX10_add_8 : decode cX10_add 8 = .ok (.aload_n 0, 1) := by decide +kernel
theorem dX10_add_9 : decode cX10_add 9 = .ok (.getfield 27, 3) := by decide +kernel
theorem dX10_add_12 : decode cX10_add 12 = .ok (.iload_n 2, 1) := by decide +kernel
theorem dX10_add_13 : decode cX10_add 13 = .ok (.iaload, 1) := by decide +kernel
theorem dX10_add_14 : decode cX10_add 14 = .ok (.if_icmp .le 12, 3) := by decide +kernel
theorem dX10_add_17 : decode cX10_add 17 = .ok (.aload_n 0, 1) := by decide +kernel
theorem dX10_add_18 : decode cX10_add 18 = .ok (.getfield 27, 3) := by decide +kernel
theorem dX10_add_21 : decode cX10_add 21 = .ok (.iload_n 1, 1) := by decide +kernel
theorem dX10_add_22 : decode cX10_add 22 = .ok (.iaload, 1) := by decide +kernel
theorem dX10_add_23 : decode cX10_add 23 = .ok (.goto 9, 3) := by decide +kernel
theorem dX10_add_26 : decode cX10_add 26 = .ok (.aload_n 0, 1) := by decide +kernel
theorem dX10_add_27 : decode cX10_add 27 = .ok (.getfield 27, 3) := by decide +kernel
theorem dX10_add_30 : decode cX10_add 30 = .ok (.iload_n 2, 1) := by decide +kernel
theorem dX10_add_31 : decode cX10_add 31 = .ok (.iaload, 1) := by decide +kernel
theorem dX10_add_32 : decode cX10_add 32 = .ok (.istore 5, 2) := by decide +kernel
theorem dX10_add_34 : decode cX10_add 34 = .ok (.iconst 0, 1) := by decide +kernel
theorem dX10_add_35 : decode cX10_add 35 = .ok (.istore 6, 2) := by decide +kernel
theorem dX10_add_37 : decode cX10_add 37 = .ok (.iload 6, 2) := by decide +kernel
theorem dX10_add_39 : decode cX10_add 39 = .ok (.iload 5, 2) := by decide +kernel
theorem dX10_add_41 : decode cX10_add 41 = .ok (.if_icmp .ge 93, 3) := by decide +kernel
theorem dX10_add_44 : decode cX10_add 44 = .ok (.iload 6, 2) := by decide +kernel
theorem dX10_add_46 : decode cX10_add 46 = .ok (.aload_n 0, 1) := by decide +kernel
theorem dX10_add_47 : decode cX10_add 47 = .ok (.getfield 27, 3) := by decide +kernel
theorem dX10_add_50 : decode cX10_add 50 = .ok (.iload_n 1, 1) := by decide +kernel
theorem dX10_add_51 : decode cX10_add 51 = .ok (.iaload, 1) := by decide +kernel
theorem dX10_add_52 : decode cX10_add 52 = .ok (.if_icmp .ge 18, 3) := by decide +kernel
theorem dX10_add_55 : decode cX10_add 55 = .ok (.aload_n 0, 1) := by decide +kernel
theorem dX10_add_56 : decode cX10_add 56 = .ok (.getfield 23, 3) := by decide +kernel
theorem dX10_add_59 : decode cX10_add 59 = .ok (.bipush 64, 2) := by decide +kernel
theorem dX10_add_61 : decode cX10_add 61 = .ok (.iload_n 1, 1) := by decide +kernel
theorem dX10_add_62 : decode cX10_add 62 = .ok (.imul, 1) := by decide +kernel
theorem dX10_add_63 : decode cX10_add 63 = .ok (.iload 6, 2) := by decide +kernel
theorem dX10_add_65 : decode cX10_add 65 = .ok (.iadd, 1) := by decide +kernel
theorem dX10_add_66 : decode cX10_add 66 = .ok (.laload, 1) := by decide +kernel
theorem dX10_add_67 : decode cX10_add 67 = .ok (.goto 4, 3) := by decide +kernel
theorem dX10_add_70 : decode cX10_add 70 = .ok (.lconst 0, 1) := by decide +kernel
theorem dX10_add_71 : decode cX10_add 71 = .ok (.iload 6, 2) := by decide +kernel
theorem dX10_add_73 : decode cX10_add 73 = .ok (.aload_n 0, 1) := by decide +kernel
theorem dX10_add_74 : decode cX10_add 74 = .ok (.getfield 27, 3) := by decide +kernel
theorem dX10_add_77 : decode cX10_add 77 = .ok (.iload_n 2, 1) := by decide +kernel
theorem dX10_add_78 : decode cX10_add 78 = .ok (.iaload, 1) := by decide +kernel
theorem dX10_add_79 : decode cX10_add 79 = .ok (.if_icmp .ge 18, 3) := by decide +kernel
theorem dX10_add_82 : decode cX10_add 82 = .ok (.aload_n 0, 1) := by decide +kernel
theorem dX10_add_83 : decode cX10_add 83 = .ok (.getfield 23, 3) := by decide +kernel
theorem dX10_add_86 : decode cX10_add 86 = .ok (.bipush 64, 2) := by decide +kernel
theorem dX10_add_88 : decode cX10_add 88 = .ok (.iload_n 2, 1) := by decide +kernel
theorem dX10_add_89 : decode cX10_add 89 = .ok (.imul, 1) := by decide +kernel
theorem dX10_add_90 : decode cX10_add 90 = .ok (.iload 6, 2) := by decide +kernel
theorem dX10_add_92 : decode cX10_add 92 = .ok (.iadd, 1) := by decide +kernel
theorem dX10_add_93 : decode cX10_add 93 = .ok (.laload, 1) := by decide +kernel
theorem dX10_add_94 : decode cX10_add 94 = .ok (.goto 4, 3) := by decide +kernel
theorem dX10_add_97 : decode cX10_add 97 = .ok (.lconst 0, 1) := by decide +kernel
theorem dX10_add_98 : decode cX10_add 98 = .ok (.ladd, 1) := by decide +kernel
theorem dX10_add_99 : decode cX10_add 99 = .ok (.lload_n 3, 1) := by decide +kernel
theorem dX10_add_100 : decode cX10_add 100 = .ok (.ladd, 1) := by decide +kernel
theorem dX10_add_101 : decode cX10_add 101 = .ok (.lstore 7, 2) := by decide +kernel
theorem dX10_add_103 : decode cX10_add 103 = .ok (.aload_n 0, 1) := by decide +kernel
theorem dX10_add_104 : decode cX10_add 104 = .ok (.getfield 23, 3) := by decide +kernel
theorem dX10_add_107 : decode cX10_add 107 = .ok (.bipush 64, 2) := by decide +kernel
theorem dX10_add_109 : decode cX10_add 109 = .ok (.iload_n 1, 1) := by decide +kernel
theorem dX10_add_110 : decode cX10_add 110 = .ok (.imul, 1) := by decide +kernel
theorem dX10_add_111 : decode cX10_add 111 = .ok (.iload 6, 2) := by decide +kernel
theorem dX10_add_113 : decode cX10_add 113 = .ok (.iadd, 1) := by decide +kernel
theorem dX10_add_114 : decode cX10_add 114 = .ok (.lload 7, 2) := by decide +kernel
theorem dX10_add_116 : decode cX10_add 116 = .ok (.ldc2_w 55, 3) := by decide +kernel
theorem dX10_add_119 : decode cX10_add 119 = .ok (.lrem, 1) := by decide +kernel
theorem dX10_add_120 : decode cX10_add 120 = .ok (.lastore, 1) := by decide +kernel
theorem dX10_add_121 : decode cX10_add 121 = .ok (.lload 7, 2) := by decide +kernel
theorem dX10_add_123 : decode cX10_add 123 = .ok (.ldc2_w 55, 3) := by decide +kernel
theorem dX10_add_126 : decode cX10_add 126 = .ok (.ldiv, 1) := by decide +kernel
theorem dX10_add_127 : decode cX10_add 127 = .ok (.lstore_n 3, 1) := by decide +kernel
theorem dX10_add_128 : decode cX10_add 128 = .ok (.iinc 6 1, 3) := by decide +kernel
theorem dX10_add_131 : decode cX10_add 131 = .ok (.goto (-94), 3) := by decide +kernel
theorem dX10_add_134 : decode cX10_add 134 = .ok (.aload_n 0, 1) := by decide +kernel
theorem dX10_add_135 : decode cX10_add 135 = .ok (.getfield 23, 3) := by decide +kernel
theorem dX10_add_138 : decode cX10_add 138 = .ok (.bipush 64, 2) := by decide +kernel
theorem dX10_add_140 : decode cX10_add 140 = .ok (.iload_n 1, 1) := by decide +kernel
theorem dX10_add_141 : decode cX10_add 141 = .ok (.imul, 1) := by decide +kernel
theorem dX10_add_142 : decode cX10_add 142 = .ok (.iload 5, 2) := by decide +kernel
theorem dX10_add_144 : decode cX10_add 144 = .ok (.iadd, 1) := by decide +kernel
theorem dX10_add_145 : decode cX10_add 145 = .ok (.lload_n 3, 1) := by decide +kernel
theorem dX10_add_146 : decode cX10_add 146 = .ok (.lastore, 1) := by decide +kernel
theorem dX10_add_147 : decode cX10_add 147 = .ok (.aload_n 0, 1) := by decide +kernel
theorem dX10_add_148 : decode cX10_add 148 = .ok (.getfield 27, 3) := by decide +kernel
theorem dX10_add_151 : decode cX10_add 151 = .ok (.iload_n 1, 1) := by decide +kernel
theorem dX10_add_152 : decode cX10_add 152 = .ok (.iload 5, 2) := by decide +kernel
theorem dX10_add_154 : decode cX10_add 154 = .ok (.iconst 1, 1) := by decide +kernel
theorem dX10_add_155 : decode cX10_add 155 = .ok (.iadd, 1) := by decide +kernel
theorem dX10_add_156 : decode cX10_add 156 = .ok (.iastore, 1) := by decide +kernel
theorem dX10_add_157 : decode cX10_add 157 = .ok (.aload_n 0, 1) := by decide +kernel
theorem dX10_add_158 : decode cX10_add 158 = .ok (.iload_n 1, 1) := by decide +kernel
theorem dX10_add_159 : decode cX10_add 159 = .ok (.invokevirtual 57, 3) := by decide +kernel
theorem dX10_add_162 : decode cX10_add 162 = .ok (.return_, 1) := by decide +kernel
theorem dX10_take_0 : decode cX10_take 0 = .ok (.lconst 0, 1) := by decide +kernel
theorem dX10_take_1 : decode cX10_take 1 = .ok (.lstore_n 3, 1) := by decide +kernel
theorem dX10_take_2 : decode cX10_take 2 = .ok (.iconst 0, 1) := by decide +kernel
theorem dX10_take_3 : decode cX10_take 3 = .ok (.istore 5, 2) := by decide +kernel
theorem dX10_take_5 : decode cX10_take 5 = .ok (.iload 5, 2) := by decide +kernel
theorem dX10_take_7 : decode cX10_take 7 = .ok (.aload_n 0, 1) := by decide +kernel
theorem dX10_take_8 : decode cX10_take 8 = .ok (.getfield 27, 3) := by decide +kernel
theorem dX10_take_11 : decode cX10_take 11 = .ok (.iload_n 1, 1) := by decide +kernel
theorem dX10_take_12 : decode cX10_take 12 = .ok (.iaload, 1) := by decide +kernel
theorem dX10_take_13 : decode cX10_take 13 = .ok (.if_icmp .ge 86, 3) := by decide +kernel
theorem dX10_take_16 : decode cX10_take 16 = .ok (.aload_n 0, 1) := by decide +kernel
theorem dX10_take_17 : decode cX10_take 17 = .ok (.getfield 23, 3) := by decide +kernel
theorem dX10_take_20 : decode cX10_take 20 = .ok (.bipush 64, 2) := by decide +kernel
theorem dX10_take_22 : decode cX10_take 22 = .ok (.iload_n 1, 1) := by decide +kernel
theorem dX10_take_23 : decode cX10_take 23 = .ok (.imul, 1) := by decide +kernel
theorem dX10_take_24 : decode cX10_take 24 = .ok (.iload 5, 2) := by decide +kernel
theorem dX10_take_26 : decode cX10_take 26 = .ok (.iadd, 1) := by decide +kernel
theorem dX10_take_27 : decode cX10_take 27 = .ok (.laload, 1) := by decide +kernel
theorem dX10_take_28 : decode cX10_take 28 = .ok (.iload 5, 2) := by decide +kernel
theorem dX10_take_30 : decode cX10_take 30 = .ok (.aload_n 0, 1) := by decide +kernel
theorem dX10_take_31 : decode cX10_take 31 = .ok (.getfield 27, 3) := by decide +kernel
theorem dX10_take_34 : decode cX10_take 34 = .ok (.iload_n 2, 1) := by decide +kernel
theorem dX10_take_35 : decode cX10_take 35 = .ok (.iaload, 1) := by decide +kernel
theorem dX10_take_36 : decode cX10_take 36 = .ok (.if_icmp .ge 18, 3) := by decide +kernel
theorem dX10_take_39 : decode cX10_take 39 = .ok (.aload_n 0, 1) := by decide +kernel
theorem dX10_take_40 : decode cX10_take 40 = .ok (.getfield 23, 3) := by decide +kernel
theorem dX10_take_43 : decode cX10_take 43 = .ok (.bipush 64, 2) := by decide +kernel
theorem dX10_take_45 : decode cX10_take 45 = .ok (.iload_n 2, 1) := by decide +kernel
theorem dX10_take_46 : decode cX10_take 46 = .ok (.imul, 1) := by decide +kernel
theorem dX10_take_47 : decode cX10_take 47 = .ok (.iload 5, 2) := by decide +kernel
theorem dX10_take_49 : decode cX10_take 49 = .ok (.iadd, 1) := by decide +kernel
theorem dX10_take_50 : decode cX10_take 50 = .ok (.laload, 1) := by decide +kernel
theorem dX10_take_51 : decode cX10_take 51 = .ok (.goto 4, 3) := by decide +kernel
theorem dX10_take_54 : decode cX10_take 54 = .ok (.lconst 0, 1) := by decide +kernel
theorem dX10_take_55 : decode cX10_take 55 = .ok (.lsub, 1) := by decide +kernel
theorem dX10_take_56 : decode cX10_take 56 = .ok (.lload_n 3, 1) := by decide +kernel
theorem dX10_take_57 : decode cX10_take 57 = .ok (.lsub, 1) := by decide +kernel
theorem dX10_take_58 : decode cX10_take 58 = .ok (.lstore 6, 2) := by decide +kernel
theorem dX10_take_60 : decode cX10_take 60 = .ok (.lload 6, 2) := by decide +kernel
theorem dX10_take_62 : decode cX10_take 62 = .ok (.lconst 0, 1) := by decide +kernel
theorem dX10_take_63 : decode cX10_take 63 = .ok (.lcmp, 1) := by decide +kernel
theorem dX10_take_64 : decode cX10_take 64 = .ok (.ifCond .ge 7, 3) := by decide +kernel
theorem dX10_take_67 : decode cX10_take 67 = .ok (.lconst 1, 1) := by decide +kernel
theorem dX10_take_68 : decode cX10_take 68 = .ok (.goto 4, 3) := by decide +kernel
theorem dX10_take_71 : decode cX10_take 71 = .ok (.lconst 0, 1) := by decide +kernel
theorem dX10_take_72 : decode cX10_take 72 = .ok (.lstore_n 3, 1) := by decide +kernel
theorem dX10_take_73 : decode cX10_take 73 = .ok (.aload_n 0, 1) := by decide +kernel
theorem dX10_take_74 : decode cX10_take 74 = .ok (.getfield 23, 3) := by decide +kernel
theorem dX10_take_77 : decode cX10_take 77 = .ok (.bipush 64, 2) := by decide +kernel
theorem dX10_take_79 : decode cX10_take 79 = .ok (.iload_n 1, 1) := by decide +kernel
theorem dX10_take_80 : decode cX10_take 80 = .ok (.imul, 1) := by decide +kernel
theorem dX10_take_81 : decode cX10_take 81 = .ok (.iload 5, 2) := by decide +kernel
theorem dX10_take_83 : decode cX10_take 83 = .ok (.iadd, 1) := by decide +kernel
theorem dX10_take_84 : decode cX10_take 84 = .ok (.lload 6, 2) := by decide +kernel
theorem dX10_take_86 : decode cX10_take 86 = .ok (.lload_n 3, 1) := by decide +kernel
theorem dX10_take_87 : decode cX10_take 87 = .ok (.ldc2_w 55, 3) := by decide +kernel
theorem dX10_take_90 : decode cX10_take 90 = .ok (.lmul, 1) := by decide +kernel
theorem dX10_take_91 : decode cX10_take 91 = .ok (.ladd, 1) := by decide +kernel
theorem dX10_take_92 : decode cX10_take 92 = .ok (.lastore, 1) := by decide +kernel
theorem dX10_take_93 : decode cX10_take 93 = .ok (.iinc 5 1, 3) := by decide +kernel
theorem dX10_take_96 : decode cX10_take 96 = .ok (.goto (-91), 3) := by decide +kernel
theorem dX10_take_99 : decode cX10_take 99 = .ok (.aload_n 0, 1) := by decide +kernel
theorem dX10_take_100 : decode cX10_take 100 = .ok (.iload_n 1, 1) := by decide +kernel
theorem dX10_take_101 : decode cX10_take 101 = .ok (.invokevirtual 57, 3) := by decide +kernel
theorem dX10_take_104 : decode cX10_take 104 = .ok (.return_, 1) := by decide +kernel
theorem dX10_halve_0 : decode cX10_halve 0 = .ok (.lconst 0, 1) := by decide +kernel
theorem dX10_halve_1 : decode cX10_halve 1 = .ok (.lstore_n 2, 1) := by decide +kernel
theorem dX10_halve_2 : decode cX10_halve 2 = .ok (.aload_n 0, 1) := by decide +kernel
theorem dX10_halve_3 : decode cX10_halve 3 = .ok (.getfield 27, 3) := by decide +kernel
theorem dX10_halve_6 : decode cX10_halve 6 = .ok (.iload_n 1, 1) := by decide +kernel
theorem dX10_halve_7 : decode cX10_halve 7 = .ok (.iaload, 1) := by decide +kernel
theorem dX10_halve_8 : decode cX10_halve 8 = .ok (.iconst 1, 1) := by decide +kernel
theorem dX10_halve_9 : decode cX10_halve 9 = .ok (.isub, 1) := by decide +kernel
theorem dX10_halve_10 : decode cX10_halve 10 = .ok (.istore 4, 2) := by decide +kernel
theorem dX10_halve_12 : decode cX10_halve 12 = .ok (.iload 4, 2) := by decide +kernel
theorem dX10_halve_14 : decode cX10_halve 14 = .ok (.ifCond .lt 54, 3) := by decide +kernel
theorem dX10_halve_17 : decode cX10_halve 17 = .ok (.aload_n 0, 1) := by decide +kernel
theorem dX10_halve_18 : decode cX10_halve 18 = .ok (.getfield 23, 3) := by decide +kernel
theorem dX10_halve_21 : decode cX10_halve 21 = .ok (.bipush 64, 2) := by decide +kernel
theorem dX10_halve_23 : decode cX10_halve 23 = .ok (.iload_n 1, 1) := by decide +kernel
theorem dX10_halve_24 : decode cX10_halve 24 = .ok (.imul, 1) := by decide +kernel
theorem dX10_halve_25 : decode cX10_halve 25 = .ok (.iload 4, 2) := by decide +kernel
theorem dX10_halve_27 : decode cX10_halve 27 = .ok (.iadd, 1) := by decide +kernel
theorem dX10_halve_28 : decode cX10_halve 28 = .ok (.laload, 1) := by decide +kernel
theorem dX10_halve_29 : decode cX10_halve 29 = .ok (.lload_n 2, 1) := by decide +kernel
theorem dX10_halve_30 : decode cX10_halve 30 = .ok (.ldc2_w 55, 3) := by decide +kernel
theorem dX10_halve_33 : decode cX10_halve 33 = .ok (.lmul, 1) := by decide +kernel
theorem dX10_halve_34 : decode cX10_halve 34 = .ok (.ladd, 1) := by decide +kernel
theorem dX10_halve_35 : decode cX10_halve 35 = .ok (.lstore 5, 2) := by decide +kernel
theorem dX10_halve_37 : decode cX10_halve 37 = .ok (.aload_n 0, 1) := by decide +kernel
theorem dX10_halve_38 : decode cX10_halve 38 = .ok (.getfield 23, 3) := by decide +kernel
theorem dX10_halve_41 : decode cX10_halve 41 = .ok (.bipush 64, 2) := by decide +kernel
theorem dX10_halve_43 : decode cX10_halve 43 = .ok (.iload_n 1, 1) := by decide +kernel
theorem dX10_halve_44 : decode cX10_halve 44 = .ok (.imul, 1) := by decide +kernel
theorem dX10_halve_45 : decode cX10_halve 45 = .ok (.iload 4, 2) := by decide +kernel
theorem dX10_halve_47 : decode cX10_halve 47 = .ok (.iadd, 1) := by decide +kernel
theorem dX10_halve_48 : decode cX10_halve 48 = .ok (.lload 5, 2) := by decide +kernel
theorem dX10_halve_50 : decode cX10_halve 50 = .ok (.ldc2_w 61, 3) := by decide +kernel
theorem dX10_halve_53 : decode cX10_halve 53 = .ok (.ldiv, 1) := by decide +kernel
theorem dX10_halve_54 : decode cX10_halve 54 = .ok (.lastore, 1) := by decide +kernel
theorem dX10_halve_55 : decode cX10_halve 55 = .ok (.lload 5, 2) := by decide +kernel
theorem dX10_halve_57 : decode cX10_halve 57 = .ok (.ldc2_w 61, 3) := by decide +kernel
theorem dX10_halve_60 : decode cX10_halve 60 = .ok (.lrem, 1) := by decide +kernel
theorem dX10_halve_61 : decode cX10_halve 61 = .ok (.lstore_n 2, 1) := by decide +kernel
theorem dX10_halve_62 : decode cX10_halve 62 = .ok (.iinc 4 (-1), 3) := by decide +kernel
theorem dX10_halve_65 : decode cX10_halve 65 = .ok (.goto (-53), 3) := by decide +kernel
theorem dX10_halve_68 : decode cX10_halve 68 = .ok (.aload_n 0, 1) := by decide +kernel
theorem dX10_halve_69 : decode cX10_halve 69 = .ok (.iload_n 1, 1) := by decide +kernel
theorem dX10_halve_70 : decode cX10_halve 70 = .ok (.invokevirtual 57, 3) := by decide +kernel
theorem dX10_halve_73 : decode cX10_halve 73 = .ok (.return_, 1) := by decide +kernel
theorem dX10_isEven_0 : decode cX10_isEven 0 = .ok (.aload_n 0, 1) := by decide +kernel
theorem dX10_isEven_1 : decode cX10_isEven 1 = .ok (.getfield 27, 3) := by decide +kernel
theorem dX10_isEven_4 : decode cX10_isEven 4 = .ok (.iload_n 1, 1) := by decide +kernel
theorem dX10_isEven_5 : decode cX10_isEven 5 = .ok (.iaload, 1) := by decide +kernel
theorem dX10_isEven_6 : decode cX10_isEven 6 = .ok (.ifCond .eq 21, 3) := by decide +kernel
theorem dX10_isEven_9 : decode cX10_isEven 9 = .ok (.aload_n 0, 1) := by decide +kernel
theorem dX10_isEven_10 : decode cX10_isEven 10 = .ok (.getfield 23, 3) := by decide +kernel
theorem dX10_isEven_13 : decode cX10_isEven 13 = .ok (.bipush 64, 2) := by decide +kernel
theorem dX10_isEven_15 : decode cX10_isEven 15 = .ok (.iload_n 1, 1) := by decide +kernel
theorem dX10_isEven_16 : decode cX10_isEven 16 = .ok (.imul, 1) := by decide +kernel
theorem dX10_isEven_17 : decode cX10_isEven 17 = .ok (.laload, 1) := by decide +kernel
theorem dX10_isEven_18 : decode cX10_isEven 18 = .ok (.ldc2_w 61, 3) := by decide +kernel
theorem dX10_isEven_21 : decode cX10_isEven 21 = .ok (.lrem, 1) := by decide +kernel
theorem dX10_isEven_22 : decode cX10_isEven 22 = .ok (.lconst 0, 1) := by decide +kernel
theorem dX10_isEven_23 : decode cX10_isEven 23 = .ok (.lcmp, 1) := by decide +kernel
theorem dX10_isEven_24 : decode cX10_isEven 24 = .ok (.ifCond .ne 7, 3) := by decide +kernel
theorem dX10_isEven_27 : decode cX10_isEven 27 = .ok (.iconst 1, 1) := by decide +kernel
theorem dX10_isEven_28 : decode cX10_isEven 28 = .ok (.goto 4, 3) := by decide +kernel
theorem dX10_isEven_31 : decode cX10_isEven 31 = .ok (.iconst 0, 1) := by decide +kernel
theorem dX10_isEven_32 : decode cX10_isEven 32 = .ok (.ireturn, 1) := by decide +kernel
theorem dX10_findDivisor_0 : decode cX10_findDivisor 0 = .ok (.aload_n 0, 1) := by decide +kernel
theorem dX10_findDivisor_1 : decode cX10_findDivisor 1 = .ok (.bipush 8, 2) := by decide +kernel
theorem dX10_findDivisor_3 : decode cX10_findDivisor 3 = .ok (.iload_n 1, 1) := by decide +kernel
theorem dX10_findDivisor_4 : decode cX10_findDivisor 4 = .ok (.invokevirtual 63, 3) := by decide +kernel
theorem dX10_findDivisor_7 : decode cX10_findDivisor 7 = .ok (.aload_n 0, 1) := by decide +kernel
theorem dX10_findDivisor_8 : decode cX10_findDivisor 8 = .ok (.bipush 9, 2) := by decide +kernel
theorem dX10_findDivisor_10 : decode cX10_findDivisor 10 = .ok (.iload_n 2, 1) := by decide +kernel
theorem dX10_findDivisor_11 : decode cX10_findDivisor 11 = .ok (.invokevirtual 63, 3) := by decide +kernel
theorem dX10_findDivisor_14 : decode cX10_findDivisor 14 = .ok (.iconst 0, 1) := by decide +kernel
theorem dX10_findDivisor_15 : decode cX10_findDivisor 15 = .ok (.istore_n 3, 1) := by decide +kernel
theorem dX10_findDivisor_16 : decode cX10_findDivisor 16 = .ok (.aload_n 0, 1) := by decide +kernel
theorem dX10_findDivisor_17 : decode cX10_findDivisor 17 = .ok (.bipush 8, 2) := by decide +kernel
theorem dX10_findDivisor_19 : decode cX10_findDivisor 19 = .ok (.invokevirtual 67, 3) := by decide +kernel
theorem dX10_findDivisor_22 : decode cX10_findDivisor 22 = .ok (.ifCond .eq 30, 3) := by decide +kernel
theorem dX10_findDivisor_25 : decode cX10_findDivisor 25 = .ok (.aload_n 0, 1) := by decide +kernel
theorem dX10_findDivisor_26 : decode cX10_findDivisor 26 = .ok (.bipush 9, 2) := by decide +kernel
theorem dX10_findDivisor_28 : decode cX10_findDivisor 28 = .ok (.invokevirtual 67, 3) := by decide +kernel
theorem dX10_findDivisor_31 : decode cX10_findDivisor 31 = .ok (.ifCond .eq 21, 3) := by decide +kernel
theorem dX10_findDivisor_34 : decode cX10_findDivisor 34 = .ok (.aload_n 0, 1) := by decide +kernel
theorem dX10_findDivisor_35 : decode cX10_findDivisor 35 = .ok (.bipush 8, 2) := by decide +kernel
theorem dX10_findDivisor_37 : decode cX10_findDivisor 37 = .ok (.invokevirtual 71, 3) := by decide +kernel
theorem dX10_findDivisor_40 : decode cX10_findDivisor 40 = .ok (.aload_n 0, 1) := by decide +kernel
theorem dX10_findDivisor_41 : decode cX10_findDivisor 41 = .ok (.bipush 9, 2) := by decide +kernel
theorem dX10_findDivisor_43 : decode cX10_findDivisor 43 = .ok (.invokevirtual 71, 3) := by decide +kernel
theorem dX10_findDivisor_46 : decode cX10_findDivisor 46 = .ok (.iinc 3 1, 3) := by decide +kernel
theorem dX10_findDivisor_49 : decode cX10_findDivisor 49 = .ok (.goto (-33), 3) := by decide +kernel
theorem dX10_findDivisor_52 : decode cX10_findDivisor 52 = .ok (.aload_n 0, 1) := by decide +kernel
theorem dX10_findDivisor_53 : decode cX10_findDivisor 53 = .ok (.getfield 27, 3) := by decide +kernel
theorem dX10_findDivisor_56 : decode cX10_findDivisor 56 = .ok (.bipush 9, 2) := by decide +kernel
theorem dX10_findDivisor_58 : decode cX10_findDivisor 58 = .ok (.iaload, 1) := by decide +kernel
theorem dX10_findDivisor_59 : decode cX10_findDivisor 59 = .ok (.ifCond .le 85, 3) := by decide +kernel
theorem dX10_findDivisor_62 : decode cX10_findDivisor 62 = .ok (.aload_n 0, 1) := by decide +kernel
theorem dX10_findDivisor_63 : decode cX10_findDivisor 63 = .ok (.bipush 8, 2) := by decide +kernel
theorem dX10_findDivisor_65 : decode cX10_findDivisor 65 = .ok (.invokevirtual 67, 3) := by decide +kernel
theorem dX10_findDivisor_68 : decode cX10_findDivisor 68 = .ok (.ifCond .eq 12, 3) := by decide +kernel
theorem dX10_findDivisor_71 : decode cX10_findDivisor 71 = .ok (.aload_n 0, 1) := by decide +kernel
theorem dX10_findDivisor_72 : decode cX10_findDivisor 72 = .ok (.bipush 8, 2) := by decide +kernel
theorem dX10_findDivisor_74 : decode cX10_findDivisor 74 = .ok (.invokevirtual 71, 3) := by decide +kernel
theorem dX10_findDivisor_77 : decode cX10_findDivisor 77 = .ok (.goto (-15), 3) := by decide +kernel
theorem dX10_findDivisor_80 : decode cX10_findDivisor 80 = .ok (.aload_n 0, 1) := by decide +kernel
theorem dX10_findDivisor_81 : decode cX10_findDivisor 81 = .ok (.bipush 9, 2) := by decide +kernel
theorem dX10_findDivisor_83 : decode cX10_findDivisor 83 = .ok (.invokevirtual 67, 3) := by decide +kernel
theorem dX10_findDivisor_86 : decode cX10_findDivisor 86 = .ok (.ifCond .eq 12, 3) := by decide +kernel
theorem dX10_findDivisor_89 : decode cX10_findDivisor 89 = .ok (.aload_n 0, 1) := by decide +kernel
theorem dX10_findDivisor_90 : decode cX10_findDivisor 90 = .ok (.bipush 9, 2) := by decide +kernel
theorem dX10_findDivisor_92 : decode cX10_findDivisor 92 = .ok (.invokevirtual 71, 3) := by decide +kernel
theorem dX10_findDivisor_95 : decode cX10_findDivisor 95 = .ok (.goto (-15), 3) := by decide +kernel
theorem dX10_findDivisor_98 : decode cX10_findDivisor 98 = .ok (.aload_n 0, 1) := by decide +kernel
theorem dX10_findDivisor_99 : decode cX10_findDivisor 99 = .ok (.bipush 8, 2) := by decide +kernel
theorem dX10_findDivisor_101 : decode cX10_findDivisor 101 = .ok (.bipush 9, 2) := by decide +kernel
theorem dX10_findDivisor_103 : decode cX10_findDivisor 103 = .ok (.invokevirtual 74, 3) := by decide +kernel
theorem dX10_findDivisor_106 : decode cX10_findDivisor 106 = .ok (.ifCond .le 27, 3) := by decide +kernel
theorem dX10_findDivisor_109 : decode cX10_findDivisor 109 = .ok (.aload_n 0, 1) := by decide +kernel
theorem dX10_findDivisor_110 : decode cX10_findDivisor 110 = .ok (.bipush 10, 2) := by decide +kernel
theorem dX10_findDivisor_112 : decode cX10_findDivisor 112 = .ok (.bipush 8, 2) := by decide +kernel
theorem dX10_findDivisor_114 : decode cX10_findDivisor 114 = .ok (.invokevirtual 63, 3) := by decide +kernel
theorem dX10_findDivisor_117 : decode cX10_findDivisor 117 = .ok (.aload_n 0, 1) := by decide +kernel
theorem dX10_findDivisor_118 : decode cX10_findDivisor 118 = .ok (.bipush 8, 2) := by decide +kernel
theorem dX10_findDivisor_120 : decode cX10_findDivisor 120 = .ok (.bipush 9, 2) := by decide +kernel
theorem dX10_findDivisor_122 : decode cX10_findDivisor 122 = .ok (.invokevirtual 63, 3) := by decide +kernel
theorem dX10_findDivisor_125 : decode cX10_findDivisor 125 = .ok (.aload_n 0, 1) := by decide +kernel
theorem dX10_findDivisor_126 : decode cX10_findDivisor 126 = .ok (.bipush 9, 2) := by decide +kernel
theorem dX10_findDivisor_128 : decode cX10_findDivisor 128 = .ok (.bipush 10, 2) := by decide +kernel
theorem dX10_findDivisor_130 : decode cX10_findDivisor 130 = .ok (.invokevirtual 63, 3) := by decide +kernel
theorem dX10_findDivisor_133 : decode cX10_findDivisor 133 = .ok (.aload_n 0, 1) := by decide +kernel
theorem dX10_findDivisor_134 : decode cX10_findDivisor 134 = .ok (.bipush 9, 2) := by decide +kernel
theorem dX10_findDivisor_136 : decode cX10_findDivisor 136 = .ok (.bipush 8, 2) := by decide +kernel
theorem dX10_findDivisor_138 : decode cX10_findDivisor 138 = .ok (.invokevirtual 78, 3) := by decide +kernel
theorem dX10_findDivisor_141 : decode cX10_findDivisor 141 = .ok (.goto (-89), 3) := by decide +kernel
theorem dX10_findDivisor_144 : decode cX10_findDivisor 144 = .ok (.iconst 0, 1) := by decide +kernel
theorem dX10_findDivisor_145 : decode cX10_findDivisor 145 = .ok (.istore 4, 2) := by decide +kernel
theorem dX10_findDivisor_147 : decode cX10_findDivisor 147 = .ok (.iload 4, 2) := by decide +kernel
theorem dX10_findDivisor_149 : decode cX10_findDivisor 149 = .ok (.iload_n 3, 1) := by decide +kernel
theorem dX10_findDivisor_150 : decode cX10_findDivisor 150 = .ok (.if_icmp .ge 18, 3) := by decide +kernel
theorem dX10_findDivisor_153 : decode cX10_findDivisor 153 = .ok (.aload_n 0, 1) := by decide +kernel
theorem dX10_findDivisor_154 : decode cX10_findDivisor 154 = .ok (.bipush 8, 2) := by decide +kernel
theorem dX10_findDivisor_156 : decode cX10_findDivisor 156 = .ok (.ldc2_w 61, 3) := by decide +kernel
theorem dX10_findDivisor_159 : decode cX10_findDivisor 159 = .ok (.invokevirtual 81, 3) := by decide +kernel
theorem dX10_findDivisor_162 : decode cX10_findDivisor 162 = .ok (.iinc 4 1, 3) := by decide +kernel
theorem dX10_findDivisor_165 : decode cX10_findDivisor 165 = .ok (.goto (-18), 3) := by decide +kernel
theorem dX10_findDivisor_168 : decode cX10_findDivisor 168 = .ok (.return_, 1) := by decide +kernel
theorem dX10_divide_0 : decode cX10_divide 0 = .ok (.aload_n 0, 1) := by decide +kernel
theorem dX10_divide_1 : decode cX10_divide 1 = .ok (.bipush 10, 2) := by decide +kernel
theorem dX10_divide_3 : decode cX10_divide 3 = .ok (.iload_n 1, 1) := by decide +kernel
theorem dX10_divide_4 : decode cX10_divide 4 = .ok (.invokevirtual 63, 3) := by decide +kernel
theorem dX10_divide_7 : decode cX10_divide 7 = .ok (.aload_n 0, 1) := by decide +kernel
theorem dX10_divide_8 : decode cX10_divide 8 = .ok (.bipush 9, 2) := by decide +kernel
theorem dX10_divide_10 : decode cX10_divide 10 = .ok (.lconst 0, 1) := by decide +kernel
theorem dX10_divide_11 : decode cX10_divide 11 = .ok (.invokevirtual 51, 3) := by decide +kernel
theorem dX10_divide_14 : decode cX10_divide 14 = .ok (.aload_n 0, 1) := by decide +kernel
theorem dX10_divide_15 : decode cX10_divide 15 = .ok (.getfield 27, 3) := by decide +kernel
theorem dX10_divide_18 : decode cX10_divide 18 = .ok (.bipush 10, 2) := by decide +kernel
theorem dX10_divide_20 : decode cX10_divide 20 = .ok (.iaload, 1) := by decide +kernel
theorem dX10_divide_21 : decode cX10_divide 21 = .ok (.istore_n 2, 1) := by decide +kernel
theorem dX10_divide_22 : decode cX10_divide 22 = .ok (.iconst 0, 1) := by decide +kernel
theorem dX10_divide_23 : decode cX10_divide 23 = .ok (.istore_n 3, 1) := by decide +kernel
theorem dX10_divide_24 : decode cX10_divide 24 = .ok (.iload_n 3, 1) := by decide +kernel
theorem dX10_divide_25 : decode cX10_divide 25 = .ok (.iload_n 2, 1) := by decide +kernel
theorem dX10_divide_26 : decode cX10_divide 26 = .ok (.if_icmp .ge 21, 3) := by decide +kernel
theorem dX10_divide_29 : decode cX10_divide 29 = .ok (.aload_n 0, 1) := by decide +kernel
theorem dX10_divide_30 : decode cX10_divide 30 = .ok (.getfield 23, 3) := by decide +kernel
theorem dX10_divide_33 : decode cX10_divide 33 = .ok (.bipush 64, 2) := by decide +kernel
theorem dX10_divide_35 : decode cX10_divide 35 = .ok (.iload_n 1, 1) := by decide +kernel
theorem dX10_divide_36 : decode cX10_divide 36 = .ok (.imul, 1) := by decide +kernel
theorem dX10_divide_37 : decode cX10_divide 37 = .ok (.iload_n 3, 1) := by decide +kernel
theorem dX10_divide_38 : decode cX10_divide 38 = .ok (.iadd, 1) := by decide +kernel
theorem dX10_divide_39 : decode cX10_divide 39 = .ok (.lconst 0, 1) := by decide +kernel
theorem dX10_divide_40 : decode cX10_divide 40 = .ok (.lastore, 1) := by decide +kernel
theorem dX10_divide_41 : decode cX10_divide 41 = .ok (.iinc 3 1, 3) := by decide +kernel
theorem dX10_divide_44 : decode cX10_divide 44 = .ok (.goto (-20), 3) := by decide +kernel
theorem dX10_divide_47 : decode cX10_divide 47 = .ok (.iload_n 2, 1) := by decide +kernel
theorem dX10_divide_48 : decode cX10_divide 48 = .ok (.iconst 1, 1) := by decide +kernel
theorem dX10_divide_49 : decode cX10_divide 49 = .ok (.isub, 1) := by decide +kernel
theorem dX10_divide_50 : decode cX10_divide 50 = .ok (.istore_n 3, 1) := by decide +kernel
theorem dX10_divide_51 : decode cX10_divide 51 = .ok (.iload_n 3, 1) := by decide +kernel
theorem dX10_divide_52 : decode cX10_divide 52 = .ok (.ifCond .lt 106, 3) := by decide +kernel
theorem dX10_divide_55 : decode cX10_divide 55 = .ok (.lconst 0, 1) := by decide +kernel
theorem dX10_divide_56 : decode cX10_divide 56 = .ok (.lstore 4, 2) := by decide +kernel
theorem dX10_divide_58 : decode cX10_divide 58 = .ok (.bipush 29, 2) := by decide +kernel
theorem dX10_divide_60 : decode cX10_divide 60 = .ok (.istore 6, 2) := by decide +kernel
theorem dX10_divide_62 : decode cX10_divide 62 = .ok (.iload 6, 2) := by decide +kernel
theorem dX10_divide_64 : decode cX10_divide 64 = .ok (.ifCond .lt 75, 3) := by decide +kernel
theorem dX10_divide_67 : decode cX10_divide 67 = .ok (.aload_n 0, 1) := by decide +kernel
theorem dX10_divide_68 : decode cX10_divide 68 = .ok (.bipush 9, 2) := by decide +kernel
theorem dX10_divide_70 : decode cX10_divide 70 = .ok (.ldc2_w 61, 3) := by decide +kernel
theorem dX10_divide_73 : decode cX10_divide 73 = .ok (.invokevirtual 81, 3) := by decide +kernel
theorem dX10_divide_76 : decode cX10_divide 76 = .ok (.aload_n 0, 1) := by decide +kernel
theorem dX10_divide_77 : decode cX10_divide 77 = .ok (.getfield 23, 3) := by decide +kernel
theorem dX10_divide_80 : decode cX10_divide 80 = .ok (.sipush 640, 3) := by decide +kernel
theorem dX10_divide_83 : decode cX10_divide 83 = .ok (.iload_n 3, 1) := by decide +kernel
theorem dX10_divide_84 : decode cX10_divide 84 = .ok (.iadd, 1) := by decide +kernel
theorem dX10_divide_85 : decode cX10_divide 85 = .ok (.laload, 1) := by decide +kernel
theorem dX10_divide_86 : decode cX10_divide 86 = .ok (.iload 6, 2) := by decide +kernel
theorem dX10_divide_88 : decode cX10_divide 88 = .ok (.lshr, 1) := by decide +kernel
theorem dX10_divide_89 : decode cX10_divide 89 = .ok (.lconst 1, 1) := by decide +kernel
theorem dX10_divide_90 : decode cX10_divide 90 = .ok (.land, 1) := by decide +kernel
theorem dX10_divide_91 : decode cX10_divide 91 = .ok (.lconst 1, 1) := by decide +kernel
theorem dX10_divide_92 : decode cX10_divide 92 = .ok (.lcmp, 1) := by decide +kernel
theorem dX10_divide_93 : decode cX10_divide 93 = .ok (.ifCond .ne 7, 3) := by decide +kernel
theorem dX10_divide_96 : decode cX10_divide 96 = .ok (.aload_n 0, 1) := by decide +kernel
theorem dX10_divide_97 : decode cX10_divide 97 = .ok (.invokevirtual 84, 3) := by decide +kernel
theorem dX10_divide_100 : decode cX10_divide 100 = .ok (.ldc2_w 61, 3) := by decide +kernel
theorem dX10_divide_103 : decode cX10_divide 103 = .ok (.lload 4, 2) := by decide +kernel
theorem dX10_divide_105 : decode cX10_divide 105 = .ok (.lmul, 1) := by decide +kernel
theorem dX10_divide_106 : decode cX10_divide 106 = .ok (.lstore 4, 2) := by decide +kernel
theorem dX10_divide_108 : decode cX10_divide 108 = .ok (.aload_n 0, 1) := by decide +kernel
theorem dX10_divide_109 : decode cX10_divide 109 = .ok (.bipush 9, 2) := by decide +kernel
theorem dX10_divide_111 : decode cX10_divide 111 = .ok (.bipush 8, 2) := by decide +kernel
theorem dX10_divide_113 : decode cX10_divide 113 = .ok (.invokevirtual 74, 3) := by decide +kernel
theorem dX10_divide_116 : decode cX10_divide 116 = .ok (.ifCond .lt 17, 3) := by decide +kernel
theorem dX10_divide_119 : decode cX10_divide 119 = .ok (.aload_n 0, 1) := by decide +kernel
theorem dX10_divide_120 : decode cX10_divide 120 = .ok (.bipush 9, 2) := by decide +kernel
theorem dX10_divide_122 : decode cX10_divide 122 = .ok (.bipush 8, 2) := by decide +kernel
theorem dX10_divide_124 : decode cX10_divide 124 = .ok (.invokevirtual 78, 3) := by decide +kernel
theorem dX10_divide_127 : decode cX10_divide 127 = .ok (.lload 4, 2) := by decide +kernel
theorem dX10_divide_129 : decode cX10_divide 129 = .ok (.lconst 1, 1) := by decide +kernel
theorem dX10_divide_130 : decode cX10_divide 130 = .ok (.ladd, 1) := by decide +kernel
theorem dX10_divide_131 : decode cX10_divide 131 = .ok (.lstore 4, 2) := by decide +kernel
theorem dX10_divide_133 : decode cX10_divide 133 = .ok (.iinc 6 (-1), 3) := by decide +kernel
theorem dX10_divide_136 : decode cX10_divide 136 = .ok (.goto (-74), 3) := by decide +kernel
theorem dX10_divide_139 : decode cX10_divide 139 = .ok (.aload_n 0, 1) := by decide +kernel
theorem dX10_divide_140 : decode cX10_divide 140 = .ok (.getfield 23, 3) := by decide +kernel
theorem dX10_divide_143 : decode cX10_divide 143 = .ok (.bipush 64, 2) := by decide +kernel
theorem dX10_divide_145 : decode cX10_divide 145 = .ok (.iload_n 1, 1) := by decide +kernel
theorem dX10_divide_146 : decode cX10_divide 146 = .ok (.imul, 1) := by decide +kernel
theorem dX10_divide_147 : decode cX10_divide 147 = .ok (.iload_n 3, 1) := by decide +kernel
theorem dX10_divide_148 : decode cX10_divide 148 = .ok (.iadd, 1) := by decide +kernel
theorem dX10_divide_149 : decode cX10_divide 149 = .ok (.lload 4, 2) := by decide +kernel
theorem dX10_divide_151 : decode cX10_divide 151 = .ok (.lastore, 1) := by decide +kernel
theorem dX10_divide_152 : decode cX10_divide 152 = .ok (.iinc 3 (-1), 3) := by decide +kernel
theorem dX10_divide_155 : decode cX10_divide 155 = .ok (.goto (-104), 3) := by decide +kernel
theorem dX10_divide_158 : decode cX10_divide 158 = .ok (.aload_n 0, 1) := by decide +kernel
theorem dX10_divide_159 : decode cX10_divide 159 = .ok (.iload_n 1, 1) := by decide +kernel
theorem dX10_divide_160 : decode cX10_divide 160 = .ok (.invokevirtual 57, 3) := by decide +kernel
theorem dX10_divide_163 : decode cX10_divide 163 = .ok (.return_, 1) := by decide +kernel
theorem dX10_addOne_0 : decode cX10_addOne 0 = .ok (.aload_n 0, 1) := by decide +kernel
theorem dX10_addOne_1 : decode cX10_addOne 1 = .ok (.getfield 27, 3) := by decide +kernel
theorem dX10_addOne_4 : decode cX10_addOne 4 = .ok (.bipush 9, 2) := by decide +kernel
theorem dX10_addOne_6 : decode cX10_addOne 6 = .ok (.iaload, 1) := by decide +kernel
theorem dX10_addOne_7 : decode cX10_addOne 7 = .ok (.ifCond .ne 13, 3) := by decide +kernel
theorem dX10_addOne_10 : decode cX10_addOne 10 = .ok (.aload_n 0, 1) := by decide +kernel
theorem dX10_addOne_11 : decode cX10_addOne 11 = .ok (.bipush 9, 2) := by decide +kernel
theorem dX10_addOne_13 : decode cX10_addOne 13 = .ok (.lconst 1, 1) := by decide +kernel
theorem dX10_addOne_14 : decode cX10_addOne 14 = .ok (.invokevirtual 51, 3) := by decide +kernel
theorem dX10_addOne_17 : decode cX10_addOne 17 = .ok (.goto 15, 3) := by decide +kernel
theorem dX10_addOne_20 : decode cX10_addOne 20 = .ok (.aload_n 0, 1) := by decide +kernel
theorem dX10_addOne_21 : decode cX10_addOne 21 = .ok (.getfield 23, 3) := by decide +kernel
theorem dX10_addOne_24 : decode cX10_addOne 24 = .ok (.sipush 576, 3) := by decide +kernel
theorem dX10_addOne_27 : decode cX10_addOne 27 = .ok (.dup2, 1) := by decide +kernel
theorem dX10_addOne_28 : decode cX10_addOne 28 = .ok (.laload, 1) := by decide +kernel
theorem dX10_addOne_29 : decode cX10_addOne 29 = .ok (.lconst 1, 1) := by decide +kernel
theorem dX10_addOne_30 : decode cX10_addOne 30 = .ok (.ladd, 1) := by decide +kernel
theorem dX10_addOne_31 : decode cX10_addOne 31 = .ok (.lastore, 1) := by decide +kernel
theorem dX10_addOne_32 : decode cX10_addOne 32 = .ok (.return_, 1) := by decide +kernel
theorem dX10_tell_0 : decode cX10_tell 0 = .ok (.aload_n 0, 1) := by decide +kernel
theorem dX10_tell_1 : decode cX10_tell 1 = .ok (.getfield 27, 3) := by decide +kernel
theorem dX10_tell_4 : decode cX10_tell 4 = .ok (.iload_n 1, 1) := by decide +kernel
theorem dX10_tell_5 : decode cX10_tell 5 = .ok (.iaload, 1) := by decide +kernel
theorem dX10_tell_6 : decode cX10_tell 6 = .ok (.ifCond .ne 21, 3) := by decide +kernel
theorem dX10_tell_9 : decode cX10_tell 9 = .ok (.aload_n 0, 1) := by decide +kernel
theorem dX10_tell_10 : decode cX10_tell 10 = .ok (.iconst 0, 1) := by decide +kernel
theorem dX10_tell_11 : decode cX10_tell 11 = .ok (.lconst 0, 1) := by decide +kernel
theorem dX10_tell_12 : decode cX10_tell 12 = .ok (.invokevirtual 51, 3) := by decide +kernel
theorem dX10_tell_15 : decode cX10_tell 15 = .ok (.aload_n 0, 1) := by decide +kernel
theorem dX10_tell_16 : decode cX10_tell 16 = .ok (.iconst 1, 1) := by decide +kernel
theorem dX10_tell_17 : decode cX10_tell 17 = .ok (.lconst 1, 1) := by decide +kernel
theorem dX10_tell_18 : decode cX10_tell 18 = .ok (.invokevirtual 51, 3) := by decide +kernel
theorem dX10_tell_21 : decode cX10_tell 21 = .ok (.aload_n 0, 1) := by decide +kernel
theorem dX10_tell_22 : decode cX10_tell 22 = .ok (.iconst 0, 1) := by decide +kernel
theorem dX10_tell_23 : decode cX10_tell 23 = .ok (.putfield 87, 3) := by decide +kernel
theorem dX10_tell_26 : decode cX10_tell 26 = .ok (.return_, 1) := by decide +kernel
theorem dX10_tell_27 : decode cX10_tell 27 = .ok (.aload_n 0, 1) := by decide +kernel
theorem dX10_tell_28 : decode cX10_tell 28 = .ok (.iload_n 1, 1) := by decide +kernel
theorem dX10_tell_29 : decode cX10_tell 29 = .ok (.iload_n 2, 1) := by decide +kernel
theorem dX10_tell_30 : decode cX10_tell 30 = .ok (.invokevirtual 91, 3) := by decide +kernel
theorem dX10_tell_33 : decode cX10_tell 33 = .ok (.aload_n 0, 1) := by decide +kernel
theorem dX10_tell_34 : decode cX10_tell 34 = .ok (.iconst 0, 1) := by decide +kernel
theorem dX10_tell_35 : decode cX10_tell 35 = .ok (.iload_n 1, 1) := by decide +kernel
theorem dX10_tell_36 : decode cX10_tell 36 = .ok (.invokevirtual 63, 3) := by decide +kernel
theorem dX10_tell_39 : decode cX10_tell 39 = .ok (.aload_n 0, 1) := by decide +kernel
theorem dX10_tell_40 : decode cX10_tell 40 = .ok (.iconst 0, 1) := by decide +kernel
theorem dX10_tell_41 : decode cX10_tell 41 = .ok (.invokevirtual 94, 3) := by decide +kernel
theorem dX10_tell_44 : decode cX10_tell 44 = .ok (.aload_n 0, 1) := by decide +kernel
theorem dX10_tell_45 : decode cX10_tell 45 = .ok (.iconst 1, 1) := by decide +kernel
theorem dX10_tell_46 : decode cX10_tell 46 = .ok (.iload_n 2, 1) := by decide +kernel
theorem dX10_tell_47 : decode cX10_tell 47 = .ok (.invokevirtual 63, 3) := by decide +kernel
theorem dX10_tell_50 : decode cX10_tell 50 = .ok (.aload_n 0, 1) := by decide +kernel
theorem dX10_tell_51 : decode cX10_tell 51 = .ok (.iconst 1, 1) := by decide +kernel
theorem dX10_tell_52 : decode cX10_tell 52 = .ok (.invokevirtual 94, 3) := by decide +kernel
theorem dX10_tell_55 : decode cX10_tell 55 = .ok (.aload_n 0, 1) := by decide +kernel
theorem dX10_tell_56 : decode cX10_tell 56 = .ok (.iload_n 3, 1) := by decide +kernel
theorem dX10_tell_57 : decode cX10_tell 57 = .ok (.ifCond .eq 7, 3) := by decide +kernel
theorem dX10_tell_60 : decode cX10_tell 60 = .ok (.iconst (-1), 1) := by decide +kernel
theorem dX10_tell_61 : decode cX10_tell 61 = .ok (.goto 4, 3) := by decide +kernel
theorem dX10_tell_64 : decode cX10_tell 64 = .ok (.iconst 1, 1) := by decide +kernel
theorem dX10_tell_65 : decode cX10_tell 65 = .ok (.putfield 87, 3) := by decide +kernel
theorem dX10_tell_68 : decode cX10_tell 68 = .ok (.return_, 1) := by decide +kernel
theorem dX10_tells_0 : decode cX10_tells 0 = .ok (.aload_n 0, 1) := by decide +kernel
theorem dX10_tells_1 : decode cX10_tells 1 = .ok (.iconst 2, 1) := by decide +kernel
theorem dX10_tells_2 : decode cX10_tells 2 = .ok (.lload_n 1, 1) := by decide +kernel
theorem dX10_tells_3 : decode cX10_tells 3 = .ok (.lconst 0, 1) := by decide +kernel
theorem dX10_tells_4 : decode cX10_tells 4 = .ok (.lcmp, 1) := by decide +kernel
theorem dX10_tells_5 : decode cX10_tells 5 = .ok (.ifCond .ge 8, 3) := by decide +kernel
theorem dX10_tells_8 : decode cX10_tells 8 = .ok (.lload_n 1, 1) := by decide +kernel
theorem dX10_tells_9 : decode cX10_tells 9 = .ok (.lneg, 1) := by decide +kernel
theorem dX10_tells_10 : decode cX10_tells 10 = .ok (.goto 4, 3) := by decide +kernel
theorem dX10_tells_13 : decode cX10_tells 13 = .ok (.lload_n 1, 1) := by decide +kernel
theorem dX10_tells_14 : decode cX10_tells 14 = .ok (.invokevirtual 51, 3) := by decide +kernel
theorem dX10_tells_17 : decode cX10_tells 17 = .ok (.aload_n 0, 1) := by decide +kernel
theorem dX10_tells_18 : decode cX10_tells 18 = .ok (.iconst 3, 1) := by decide +kernel
theorem dX10_tells_19 : decode cX10_tells 19 = .ok (.lload_n 3, 1) := by decide +kernel
theorem dX10_tells_20 : decode cX10_tells 20 = .ok (.invokevirtual 51, 3) := by decide +kernel
theorem dX10_tells_23 : decode cX10_tells 23 = .ok (.aload_n 0, 1) := by decide +kernel
theorem dX10_tells_24 : decode cX10_tells 24 = .ok (.iconst 2, 1) := by decide +kernel
theorem dX10_tells_25 : decode cX10_tells 25 = .ok (.iconst 3, 1) := by decide +kernel
theorem dX10_tells_26 : decode cX10_tells 26 = .ok (.lload_n 1, 1) := by decide +kernel
theorem dX10_tells_27 : decode cX10_tells 27 = .ok (.lconst 0, 1) := by decide +kernel
theorem dX10_tells_28 : decode cX10_tells 28 = .ok (.lcmp, 1) := by decide +kernel
theorem dX10_tells_29 : decode cX10_tells 29 = .ok (.ifCond .ge 7, 3) := by decide +kernel
theorem dX10_tells_32 : decode cX10_tells 32 = .ok (.iconst 1, 1) := by decide +kernel
theorem dX10_tells_33 : decode cX10_tells 33 = .ok (.goto 4, 3) := by decide +kernel
theorem dX10_tells_36 : decode cX10_tells 36 = .ok (.iconst 0, 1) := by decide +kernel
theorem dX10_tells_37 : decode cX10_tells 37 = .ok (.invokevirtual 97, 3) := by decide +kernel
theorem dX10_tells_40 : decode cX10_tells 40 = .ok (.iconst 1, 1) := by decide +kernel
theorem dX10_tells_41 : decode cX10_tells 41 = .ok (.ireturn, 1) := by decide +kernel
theorem dX10_places_0 : decode cX10_places 0 = .ok (.aload_n 0, 1) := by decide +kernel
theorem dX10_places_1 : decode cX10_places 1 = .ok (.getfield 7, 3) := by decide +kernel
theorem dX10_places_4 : decode cX10_places 4 = .ok (.sipush 671, 3) := by decide +kernel
theorem dX10_places_7 : decode cX10_places 7 = .ok (.iaload, 1) := by decide +kernel
theorem dX10_places_8 : decode cX10_places 8 = .ok (.ireturn, 1) := by decide +kernel
theorem dX10_lots_0 : decode cX10_lots 0 = .ok (.aload_n 0, 1) := by decide +kernel
theorem dX10_lots_1 : decode cX10_lots 1 = .ok (.getfield 7, 3) := by decide +kernel
theorem dX10_lots_4 : decode cX10_lots 4 = .ok (.sipush 672, 3) := by decide +kernel
theorem dX10_lots_7 : decode cX10_lots 7 = .ok (.iaload, 1) := by decide +kernel
theorem dX10_lots_8 : decode cX10_lots 8 = .ok (.ireturn, 1) := by decide +kernel
theorem dX10_signs_0 : decode cX10_signs 0 = .ok (.aload_n 0, 1) := by decide +kernel
theorem dX10_signs_1 : decode cX10_signs 1 = .ok (.getfield 7, 3) := by decide +kernel
theorem dX10_signs_4 : decode cX10_signs 4 = .ok (.sipush 673, 3) := by decide +kernel
theorem dX10_signs_7 : decode cX10_signs 7 = .ok (.iaload, 1) := by decide +kernel
theorem dX10_signs_8 : decode cX10_signs 8 = .ok (.ireturn, 1) := by decide +kernel
theorem dX10_tellers_0 : decode cX10_tellers 0 = .ok (.aload_n 0, 1) := by decide +kernel
theorem dX10_tellers_1 : decode cX10_tellers 1 = .ok (.getfield 7, 3) := by decide +kernel
theorem dX10_tellers_4 : decode cX10_tellers 4 = .ok (.sipush 674, 3) := by decide +kernel
theorem dX10_tellers_7 : decode cX10_tellers 7 = .ok (.iaload, 1) := by decide +kernel
theorem dX10_tellers_8 : decode cX10_tellers 8 = .ok (.ireturn, 1) := by decide +kernel
theorem dX10_isPlace_0 : decode cX10_isPlace 0 = .ok (.iload_n 1, 1) := by decide +kernel
theorem dX10_isPlace_1 : decode cX10_isPlace 1 = .ok (.i2l, 1) := by decide +kernel
theorem dX10_isPlace_2 : decode cX10_isPlace 2 = .ok (.lconst 0, 1) := by decide +kernel
theorem dX10_isPlace_3 : decode cX10_isPlace 3 = .ok (.aload_n 0, 1) := by decide +kernel
theorem dX10_isPlace_4 : decode cX10_isPlace 4 = .ok (.invokevirtual 101, 3) := by decide +kernel
theorem dX10_isPlace_7 : decode cX10_isPlace 7 = .ok (.iconst 1, 1) := by decide +kernel
theorem dX10_isPlace_8 : decode cX10_isPlace 8 = .ok (.isub, 1) := by decide +kernel
theorem dX10_isPlace_9 : decode cX10_isPlace 9 = .ok (.i2l, 1) := by decide +kernel
theorem dX10_isPlace_10 : decode cX10_isPlace 10 = .ok (.invokestatic 105, 3) := by decide +kernel
theorem dX10_isPlace_13 : decode cX10_isPlace 13 = .ok (.ireturn, 1) := by decide +kernel
theorem dX10_isLot_0 : decode cX10_isLot 0 = .ok (.iload_n 1, 1) := by decide +kernel
theorem dX10_isLot_1 : decode cX10_isLot 1 = .ok (.i2l, 1) := by decide +kernel
theorem dX10_isLot_2 : decode cX10_isLot 2 = .ok (.lconst 0, 1) := by decide +kernel
theorem dX10_isLot_3 : decode cX10_isLot 3 = .ok (.aload_n 0, 1) := by decide +kernel
theorem dX10_isLot_4 : decode cX10_isLot 4 = .ok (.invokevirtual 109, 3) := by decide +kernel
theorem dX10_isLot_7 : decode cX10_isLot 7 = .ok (.iconst 1, 1) := by decide +kernel
theorem dX10_isLot_8 : decode cX10_isLot 8 = .ok (.isub, 1) := by decide +kernel
theorem dX10_isLot_9 : decode cX10_isLot 9 = .ok (.i2l, 1) := by decide +kernel
theorem dX10_isLot_10 : decode cX10_isLot 10 = .ok (.invokestatic 105, 3) := by decide +kernel
theorem dX10_isLot_13 : decode cX10_isLot 13 = .ok (.ireturn, 1) := by decide +kernel
theorem dX10_isFour_0 : decode cX10_isFour 0 = .ok (.iload_n 0, 1) := by decide +kernel
theorem dX10_isFour_1 : decode cX10_isFour 1 = .ok (.i2l, 1) := by decide +kernel
theorem dX10_isFour_2 : decode cX10_isFour 2 = .ok (.lconst 0, 1) := by decide +kernel
theorem dX10_isFour_3 : decode cX10_isFour 3 = .ok (.ldc2_w 112, 3) := by decide +kernel
theorem dX10_isFour_6 : decode cX10_isFour 6 = .ok (.invokestatic 105, 3) := by decide +kernel
theorem dX10_isFour_9 : decode cX10_isFour 9 = .ok (.ireturn, 1) := by decide +kernel
theorem dX10_isMonth_0 : decode cX10_isMonth 0 = .ok (.iload_n 0, 1) := by decide +kernel
theorem dX10_isMonth_1 : decode cX10_isMonth 1 = .ok (.i2l, 1) := by decide +kernel
theorem dX10_isMonth_2 : decode cX10_isMonth 2 = .ok (.lconst 0, 1) := by decide +kernel
theorem dX10_isMonth_3 : decode cX10_isMonth 3 = .ok (.ldc2_w 114, 3) := by decide +kernel
theorem dX10_isMonth_6 : decode cX10_isMonth 6 = .ok (.invokestatic 105, 3) := by decide +kernel
theorem dX10_isMonth_9 : decode cX10_isMonth 9 = .ok (.ireturn, 1) := by decide +kernel
theorem dX10_place_0 : decode cX10_place 0 = .ok (.iload_n 1, 1) := by decide +kernel
theorem dX10_place_1 : decode cX10_place 1 = .ok (.i2l, 1) := by decide +kernel
theorem dX10_place_2 : decode cX10_place 2 = .ok (.lconst 0, 1) := by decide +kernel
theorem dX10_place_3 : decode cX10_place 3 = .ok (.ldc2_w 116, 3) := by decide +kernel
theorem dX10_place_6 : decode cX10_place 6 = .ok (.invokestatic 105, 3) := by decide +kernel
theorem dX10_place_9 : decode cX10_place 9 = .ok (.ifCond .ne 10, 3) := by decide +kernel
theorem dX10_place_12 : decode cX10_place 12 = .ok (.aload_n 0, 1) := by decide +kernel
theorem dX10_place_13 : decode cX10_place 13 = .ok (.bipush (-2), 2) := by decide +kernel
theorem dX10_place_15 : decode cX10_place 15 = .ok (.invokevirtual 118, 3) := by decide +kernel
theorem dX10_place_18 : decode cX10_place 18 = .ok (.ireturn, 1) := by decide +kernel
theorem dX10_place_19 : decode cX10_place 19 = .ok (.aload_n 0, 1) := by decide +kernel
theorem dX10_place_20 : decode cX10_place 20 = .ok (.invokevirtual 101, 3) := by decide +kernel
theorem dX10_place_23 : decode cX10_place 23 = .ok (.istore_n 2, 1) := by decide +kernel
theorem dX10_place_24 : decode cX10_place 24 = .ok (.iload_n 2, 1) := by decide +kernel
theorem dX10_place_25 : decode cX10_place 25 = .ok (.bipush 6, 2) := by decide +kernel
theorem dX10_place_27 : decode cX10_place 27 = .ok (.if_icmp .ne 8, 3) := by decide +kernel
theorem dX10_place_30 : decode cX10_place 30 = .ok (.aload_n 0, 1) := by decide +kernel
theorem dX10_place_31 : decode cX10_place 31 = .ok (.invokevirtual 122, 3) := by decide +kernel
theorem dX10_place_34 : decode cX10_place 34 = .ok (.ireturn, 1) := by decide +kernel
theorem dX10_place_35 : decode cX10_place 35 = .ok (.aload_n 0, 1) := by decide +kernel
theorem dX10_place_36 : decode cX10_place 36 = .ok (.getfield 7, 3) := by decide +kernel
theorem dX10_place_39 : decode cX10_place 39 = .ok (.iconst 0, 1) := by decide +kernel
theorem dX10_place_40 : decode cX10_place 40 = .ok (.iload_n 2, 1) := by decide +kernel
theorem dX10_place_41 : decode cX10_place 41 = .ok (.iadd, 1) := by decide +kernel
theorem dX10_place_42 : decode cX10_place 42 = .ok (.iload_n 1, 1) := by decide +kernel
theorem dX10_place_43 : decode cX10_place 43 = .ok (.iastore, 1) := by decide +kernel
theorem dX10_place_44 : decode cX10_place 44 = .ok (.iconst 0, 1) := by decide +kernel
theorem dX10_place_45 : decode cX10_place 45 = .ok (.istore_n 3, 1) := by decide +kernel
theorem dX10_place_46 : decode cX10_place 46 = .ok (.iload_n 3, 1) := by decide +kernel
theorem dX10_place_47 : decode cX10_place 47 = .ok (.bipush 6, 2) := by decide +kernel
theorem dX10_place_49 : decode cX10_place 49 = .ok (.if_icmp .ge 41, 3) := by decide +kernel
theorem dX10_place_52 : decode cX10_place 52 = .ok (.aload_n 0, 1) := by decide +kernel
theorem dX10_place_53 : decode cX10_place 53 = .ok (.getfield 7, 3) := by decide +kernel
theorem dX10_place_56 : decode cX10_place 56 = .ok (.sipush 575, 3) := by decide +kernel
theorem dX10_place_59 : decode cX10_place 59 = .ok (.bipush 6, 2) := by decide +kernel
theorem dX10_place_61 : decode cX10_place 61 = .ok (.iload_n 2, 1) := by decide +kernel
theorem dX10_place_62 : decode cX10_place 62 = .ok (.imul, 1) := by decide +kernel
theorem dX10_place_63 : decode cX10_place 63 = .ok (.iadd, 1) := by decide +kernel
theorem dX10_place_64 : decode cX10_place 64 = .ok (.iload_n 3, 1) := by decide +kernel
theorem dX10_place_65 : decode cX10_place 65 = .ok (.iadd, 1) := by decide +kernel
theorem dX10_place_66 : decode cX10_place 66 = .ok (.iconst 0, 1) := by decide +kernel
theorem dX10_place_67 : decode cX10_place 67 = .ok (.iastore, 1) := by decide +kernel
theorem dX10_place_68 : decode cX10_place 68 = .ok (.aload_n 0, 1) := by decide +kernel
theorem dX10_place_69 : decode cX10_place 69 = .ok (.getfield 7, 3) := by decide +kernel
theorem dX10_place_72 : decode cX10_place 72 = .ok (.sipush 575, 3) := by decide +kernel
theorem dX10_place_75 : decode cX10_place 75 = .ok (.bipush 6, 2) := by decide +kernel
theorem dX10_place_77 : decode cX10_place 77 = .ok (.iload_n 3, 1) := by decide +kernel
theorem dX10_place_78 : decode cX10_place 78 = .ok (.imul, 1) := by decide +kernel
theorem dX10_place_79 : decode cX10_place 79 = .ok (.iadd, 1) := by decide +kernel
theorem dX10_place_80 : decode cX10_place 80 = .ok (.iload_n 2, 1) := by decide +kernel
theorem dX10_place_81 : decode cX10_place 81 = .ok (.iadd, 1) := by decide +kernel
theorem dX10_place_82 : decode cX10_place 82 = .ok (.iconst 0, 1) := by decide +kernel
theorem dX10_place_83 : decode cX10_place 83 = .ok (.iastore, 1) := by decide +kernel
theorem dX10_place_84 : decode cX10_place 84 = .ok (.iinc 3 1, 3) := by decide +kernel
theorem dX10_place_87 : decode cX10_place 87 = .ok (.goto (-41), 3) := by decide +kernel
theorem dX10_place_90 : decode cX10_place 90 = .ok (.aload_n 0, 1) := by decide +kernel
theorem dX10_place_91 : decode cX10_place 91 = .ok (.getfield 7, 3) := by decide +kernel
theorem dX10_place_94 : decode cX10_place 94 = .ok (.sipush 671, 3) := by decide +kernel
theorem dX10_place_97 : decode cX10_place 97 = .ok (.dup2, 1) := by decide +kernel
theorem dX10_place_98 : decode cX10_place 98 = .ok (.iaload, 1) := by decide +kernel
theorem dX10_place_99 : decode cX10_place 99 = .ok (.iconst 1, 1) := by decide +kernel
theorem dX10_place_100 : decode cX10_place 100 = .ok (.iadd, 1) := by decide +kernel
theorem dX10_place_101 : decode cX10_place 101 = .ok (.iastore, 1) := by decide +kernel
theorem dX10_place_102 : decode cX10_place 102 = .ok (.iload_n 2, 1) := by decide +kernel
theorem dX10_place_103 : decode cX10_place 103 = .ok (.ireturn, 1) := by decide +kernel
theorem dX10_rain_0 : decode cX10_rain 0 = .ok (.iload_n 1, 1) := by decide +kernel
theorem dX10_rain_1 : decode cX10_rain 1 = .ok (.i2l, 1) := by decide +kernel
theorem dX10_rain_2 : decode cX10_rain 2 = .ok (.lconst 0, 1) := by decide +kernel
theorem dX10_rain_3 : decode cX10_rain 3 = .ok (.ldc2_w 125, 3) := by decide +kernel
theorem dX10_rain_6 : decode cX10_rain 6 = .ok (.invokestatic 105, 3) := by decide +kernel
theorem dX10_rain_9 : decode cX10_rain 9 = .ok (.ifCond .eq 15, 3) := by decide +kernel
theorem dX10_rain_12 : decode cX10_rain 12 = .ok (.iload_n 2, 1) := by decide +kernel
theorem dX10_rain_13 : decode cX10_rain 13 = .ok (.i2l, 1) := by decide +kernel
theorem dX10_rain_14 : decode cX10_rain 14 = .ok (.lconst 0, 1) := by decide +kernel
theorem dX10_rain_15 : decode cX10_rain 15 = .ok (.ldc2_w 125, 3) := by decide +kernel
theorem dX10_rain_18 : decode cX10_rain 18 = .ok (.invokestatic 105, 3) := by decide +kernel
theorem dX10_rain_21 : decode cX10_rain 21 = .ok (.ifCond .ne 10, 3) := by decide +kernel
theorem dX10_rain_24 : decode cX10_rain 24 = .ok (.aload_n 0, 1) := by decide +kernel
theorem dX10_rain_25 : decode cX10_rain 25 = .ok (.bipush (-2), 2) := by decide +kernel
theorem dX10_rain_27 : decode cX10_rain 27 = .ok (.invokevirtual 118, 3) := by decide +kernel
theorem dX10_rain_30 : decode cX10_rain 30 = .ok (.ireturn, 1) := by decide +kernel
theorem dX10_rain_31 : decode cX10_rain 31 = .ok (.aload_n 0, 1) := by decide +kernel
theorem dX10_rain_32 : decode cX10_rain 32 = .ok (.getfield 7, 3) := by decide +kernel
theorem dX10_rain_35 : decode cX10_rain 35 = .ok (.bipush 6, 2) := by decide +kernel
theorem dX10_rain_37 : decode cX10_rain 37 = .ok (.iload_n 1, 1) := by decide +kernel
theorem dX10_rain_38 : decode cX10_rain 38 = .ok (.iadd, 1) := by decide +kernel
theorem dX10_rain_39 : decode cX10_rain 39 = .ok (.iaload, 1) := by decide +kernel
theorem dX10_rain_40 : decode cX10_rain 40 = .ok (.istore_n 3, 1) := by decide +kernel
theorem dX10_rain_41 : decode cX10_rain 41 = .ok (.aload_n 0, 1) := by decide +kernel
theorem dX10_rain_42 : decode cX10_rain 42 = .ok (.getfield 7, 3) := by decide +kernel
theorem dX10_rain_45 : decode cX10_rain 45 = .ok (.bipush 6, 2) := by decide +kernel
theorem dX10_rain_47 : decode cX10_rain 47 = .ok (.iload_n 1, 1) := by decide +kernel
theorem dX10_rain_48 : decode cX10_rain 48 = .ok (.iadd, 1) := by decide +kernel
theorem dX10_rain_49 : decode cX10_rain 49 = .ok (.iload_n 2, 1) := by decide +kernel
theorem dX10_rain_50 : decode cX10_rain 50 = .ok (.iastore, 1) := by decide +kernel
theorem dX10_rain_51 : decode cX10_rain 51 = .ok (.iload_n 3, 1) := by decide +kernel
theorem dX10_rain_52 : decode cX10_rain 52 = .ok (.ireturn, 1) := by decide +kernel
theorem dX10_lot_0 : decode cX10_lot 0 = .ok (.iload_n 1, 1) := by decide +kernel
theorem dX10_lot_1 : decode cX10_lot 1 = .ok (.i2l, 1) := by decide +kernel
theorem dX10_lot_2 : decode cX10_lot 2 = .ok (.lconst 1, 1) := by decide +kernel
theorem dX10_lot_3 : decode cX10_lot 3 = .ok (.ldc2_w 127, 3) := by decide +kernel
theorem dX10_lot_6 : decode cX10_lot 6 = .ok (.invokestatic 105, 3) := by decide +kernel
theorem dX10_lot_9 : decode cX10_lot 9 = .ok (.ifCond .ne 10, 3) := by decide +kernel
theorem dX10_lot_12 : decode cX10_lot 12 = .ok (.aload_n 0, 1) := by decide +kernel
theorem dX10_lot_13 : decode cX10_lot 13 = .ok (.bipush (-2), 2) := by decide +kernel
theorem dX10_lot_15 : decode cX10_lot 15 = .ok (.invokevirtual 118, 3) := by decide +kernel
theorem dX10_lot_18 : decode cX10_lot 18 = .ok (.ireturn, 1) := by decide +kernel
theorem dX10_lot_19 : decode cX10_lot 19 = .ok (.aload_n 0, 1) := by decide +kernel
theorem dX10_lot_20 : decode cX10_lot 20 = .ok (.invokevirtual 109, 3) := by decide +kernel
theorem dX10_lot_23 : decode cX10_lot 23 = .ok (.iconst 4, 1) := by decide +kernel
theorem dX10_lot_24 : decode cX10_lot 24 = .ok (.if_icmp .ne 8, 3) := by decide +kernel
theorem dX10_lot_27 : decode cX10_lot 27 = .ok (.aload_n 0, 1) := by decide +kernel
theorem dX10_lot_28 : decode cX10_lot 28 = .ok (.invokevirtual 122, 3) := by decide +kernel
theorem dX10_lot_31 : decode cX10_lot 31 = .ok (.ireturn, 1) := by decide +kernel
theorem dX10_lot_32 : decode cX10_lot 32 = .ok (.aload_n 0, 1) := by decide +kernel
theorem dX10_lot_33 : decode cX10_lot 33 = .ok (.getfield 7, 3) := by decide +kernel
theorem dX10_lot_36 : decode cX10_lot 36 = .ok (.bipush 16, 2) := by decide +kernel
theorem dX10_lot_38 : decode cX10_lot 38 = .ok (.aload_n 0, 1) := by decide +kernel
theorem dX10_lot_39 : decode cX10_lot 39 = .ok (.invokevirtual 109, 3) := by decide +kernel
theorem dX10_lot_42 : decode cX10_lot 42 = .ok (.iadd, 1) := by decide +kernel
theorem dX10_lot_43 : decode cX10_lot 43 = .ok (.iload_n 1, 1) := by decide +kernel
theorem dX10_lot_44 : decode cX10_lot 44 = .ok (.iastore, 1) := by decide +kernel
theorem dX10_lot_45 : decode cX10_lot 45 = .ok (.aload_n 0, 1) := by decide +kernel
theorem dX10_lot_46 : decode cX10_lot 46 = .ok (.getfield 7, 3) := by decide +kernel
theorem dX10_lot_49 : decode cX10_lot 49 = .ok (.sipush 672, 3) := by decide +kernel
theorem dX10_lot_52 : decode cX10_lot 52 = .ok (.dup2, 1) := by decide +kernel
theorem dX10_lot_53 : decode cX10_lot 53 = .ok (.iaload, 1) := by decide +kernel
theorem dX10_lot_54 : decode cX10_lot 54 = .ok (.iconst 1, 1) := by decide +kernel
theorem dX10_lot_55 : decode cX10_lot 55 = .ok (.iadd, 1) := by decide +kernel
theorem dX10_lot_56 : decode cX10_lot 56 = .ok (.iastore, 1) := by decide +kernel
theorem dX10_lot_57 : decode cX10_lot 57 = .ok (.aload_n 0, 1) := by decide +kernel
theorem dX10_lot_58 : decode cX10_lot 58 = .ok (.invokevirtual 109, 3) := by decide +kernel
theorem dX10_lot_61 : decode cX10_lot 61 = .ok (.iconst 1, 1) := by decide +kernel
theorem dX10_lot_62 : decode cX10_lot 62 = .ok (.isub, 1) := by decide +kernel
theorem dX10_lot_63 : decode cX10_lot 63 = .ok (.ireturn, 1) := by decide +kernel
theorem dX10_put_0 : decode cX10_put 0 = .ok (.iload_n 1, 1) := by decide +kernel
theorem dX10_put_1 : decode cX10_put 1 = .ok (.i2l, 1) := by decide +kernel
theorem dX10_put_2 : decode cX10_put 2 = .ok (.lconst 0, 1) := by decide +kernel
theorem dX10_put_3 : decode cX10_put 3 = .ok (.lconst 1, 1) := by decide +kernel
theorem dX10_put_4 : decode cX10_put 4 = .ok (.invokestatic 105, 3) := by decide +kernel
theorem dX10_put_7 : decode cX10_put 7 = .ok (.ifCond .eq 16, 3) := by decide +kernel
theorem dX10_put_10 : decode cX10_put 10 = .ok (.iload_n 2, 1) := by decide +kernel
theorem dX10_put_11 : decode cX10_put 11 = .ok (.i2l, 1) := by decide +kernel
theorem dX10_put_12 : decode cX10_put 12 = .ok (.iload_n 1, 1) := by decide +kernel
theorem dX10_put_13 : decode cX10_put 13 = .ok (.i2l, 1) := by decide +kernel
theorem dX10_put_14 : decode cX10_put 14 = .ok (.ldc2_w 125, 3) := by decide +kernel
theorem dX10_put_17 : decode cX10_put 17 = .ok (.invokestatic 105, 3) := by decide +kernel
theorem dX10_put_20 : decode cX10_put 20 = .ok (.ifCond .ne 10, 3) := by decide +kernel
theorem dX10_put_23 : decode cX10_put 23 = .ok (.aload_n 0, 1) := by decide +kernel
theorem dX10_put_24 : decode cX10_put 24 = .ok (.bipush (-2), 2) := by decide +kernel
theorem dX10_put_26 : decode cX10_put 26 = .ok (.invokevirtual 118, 3) := by decide +kernel
theorem dX10_put_29 : decode cX10_put 29 = .ok (.ireturn, 1) := by decide +kernel
theorem dX10_put_30 : decode cX10_put 30 = .ok (.aload_n 0, 1) := by decide +kernel
theorem dX10_put_31 : decode cX10_put 31 = .ok (.getfield 7, 3) := by decide +kernel
theorem dX10_put_34 : decode cX10_put 34 = .ok (.bipush 20, 2) := by decide +kernel
theorem dX10_put_36 : decode cX10_put 36 = .ok (.iload_n 1, 1) := by decide +kernel
theorem dX10_put_37 : decode cX10_put 37 = .ok (.iadd, 1) := by decide +kernel
theorem dX10_put_38 : decode cX10_put 38 = .ok (.iaload, 1) := by decide +kernel
theorem dX10_put_39 : decode cX10_put 39 = .ok (.istore_n 3, 1) := by decide +kernel
theorem dX10_put_40 : decode cX10_put 40 = .ok (.aload_n 0, 1) := by decide +kernel
theorem dX10_put_41 : decode cX10_put 41 = .ok (.getfield 7, 3) := by decide +kernel
theorem dX10_put_44 : decode cX10_put 44 = .ok (.bipush 20, 2) := by decide +kernel
theorem dX10_put_46 : decode cX10_put 46 = .ok (.iload_n 1, 1) := by decide +kernel
theorem dX10_put_47 : decode cX10_put 47 = .ok (.iadd, 1) := by decide +kernel
theorem dX10_put_48 : decode cX10_put 48 = .ok (.iload_n 2, 1) := by decide +kernel
theorem dX10_put_49 : decode cX10_put 49 = .ok (.iastore, 1) := by decide +kernel
theorem dX10_put_50 : decode cX10_put 50 = .ok (.iload_n 3, 1) := by decide +kernel
theorem dX10_put_51 : decode cX10_put 51 = .ok (.ireturn, 1) := by decide +kernel
theorem dX10_kind_0 : decode cX10_kind 0 = .ok (.iload_n 1, 1) := by decide +kernel
theorem dX10_kind_1 : decode cX10_kind 1 = .ok (.invokestatic 129, 3) := by decide +kernel
theorem dX10_kind_4 : decode cX10_kind 4 = .ok (.ifCond .eq 43, 3) := by decide +kernel
theorem dX10_kind_7 : decode cX10_kind 7 = .ok (.iload_n 2, 1) := by decide +kernel
theorem dX10_kind_8 : decode cX10_kind 8 = .ok (.i2l, 1) := by decide +kernel
theorem dX10_kind_9 : decode cX10_kind 9 = .ok (.lconst 0, 1) := by decide +kernel
theorem dX10_kind_10 : decode cX10_kind 10 = .ok (.lconst 1, 1) := by decide +kernel
theorem dX10_kind_11 : decode cX10_kind 11 = .ok (.invokestatic 105, 3) := by decide +kernel
theorem dX10_kind_14 : decode cX10_kind 14 = .ok (.ifCond .eq 33, 3) := by decide +kernel
theorem dX10_kind_17 : decode cX10_kind 17 = .ok (.iload_n 3, 1) := by decide +kernel
theorem dX10_kind_18 : decode cX10_kind 18 = .ok (.i2l, 1) := by decide +kernel
theorem dX10_kind_19 : decode cX10_kind 19 = .ok (.iload_n 2, 1) := by decide +kernel
theorem dX10_kind_20 : decode cX10_kind 20 = .ok (.ifCond .ne 7, 3) := by decide +kernel
theorem dX10_kind_23 : decode cX10_kind 23 = .ok (.lconst 1, 1) := by decide +kernel
theorem dX10_kind_24 : decode cX10_kind 24 = .ok (.goto 4, 3) := by decide +kernel
theorem dX10_kind_27 : decode cX10_kind 27 = .ok (.lconst 0, 1) := by decide +kernel
theorem dX10_kind_28 : decode cX10_kind 28 = .ok (.iload_n 2, 1) := by decide +kernel
theorem dX10_kind_29 : decode cX10_kind 29 = .ok (.ifCond .ne 9, 3) := by decide +kernel
theorem dX10_kind_32 : decode cX10_kind 32 = .ok (.ldc2_w 132, 3) := by decide +kernel
theorem dX10_kind_35 : decode cX10_kind 35 = .ok (.goto 6, 3) := by decide +kernel
theorem dX10_kind_38 : decode cX10_kind 38 = .ok (.ldc2_w 125, 3) := by decide +kernel
theorem dX10_kind_41 : decode cX10_kind 41 = .ok (.invokestatic 105, 3) := by decide +kernel
theorem dX10_kind_44 : decode cX10_kind 44 = .ok (.ifCond .ne 10, 3) := by decide +kernel
theorem dX10_kind_47 : decode cX10_kind 47 = .ok (.aload_n 0, 1) := by decide +kernel
theorem dX10_kind_48 : decode cX10_kind 48 = .ok (.bipush (-2), 2) := by decide +kernel
theorem dX10_kind_50 : decode cX10_kind 50 = .ok (.invokevirtual 118, 3) := by decide +kernel
theorem dX10_kind_53 : decode cX10_kind 53 = .ok (.ireturn, 1) := by decide +kernel
theorem dX10_kind_54 : decode cX10_kind 54 = .ok (.iload_n 2, 1) := by decide +kernel
theorem dX10_kind_55 : decode cX10_kind 55 = .ok (.ifCond .ne 8, 3) := by decide +kernel
theorem dX10_kind_58 : decode cX10_kind 58 = .ok (.bipush 22, 2) := by decide +kernel
theorem dX10_kind_60 : decode cX10_kind 60 = .ok (.goto 5, 3) := by decide +kernel
theorem dX10_kind_63 : decode cX10_kind 63 = .ok (.bipush 26, 2) := by decide +kernel
theorem dX10_kind_65 : decode cX10_kind 65 = .ok (.iload_n 1, 1) := by decide +kernel
theorem dX10_kind_66 : decode cX10_kind 66 = .ok (.iadd, 1) := by decide +kernel
theorem dX10_kind_67 : decode cX10_kind 67 = .ok (.istore 4, 2) := by decide +kernel
theorem dX10_kind_69 : decode cX10_kind 69 = .ok (.aload_n 0, 1) := by decide +kernel
theorem dX10_kind_70 : decode cX10_kind 70 = .ok (.getfield 7, 3) := by decide +kernel
theorem dX10_kind_73 : decode cX10_kind 73 = .ok (.iload 4, 2) := by decide +kernel
theorem dX10_kind_75 : decode cX10_kind 75 = .ok (.iaload, 1) := by decide +kernel
theorem dX10_kind_76 : decode cX10_kind 76 = .ok (.istore 5, 2) := by decide +kernel
theorem dX10_kind_78 : decode cX10_kind 78 = .ok (.aload_n 0, 1) := by decide +kernel
theorem dX10_kind_79 : decode cX10_kind 79 = .ok (.getfield 7, 3) := by decide +kernel
theorem dX10_kind_82 : decode cX10_kind 82 = .ok (.iload 4, 2) := by decide +kernel
theorem dX10_kind_84 : decode cX10_kind 84 = .ok (.iload_n 3, 1) := by decide +kernel
theorem dX10_kind_85 : decode cX10_kind 85 = .ok (.iastore, 1) := by decide +kernel
theorem dX10_kind_86 : decode cX10_kind 86 = .ok (.iload 5, 2) := by decide +kernel
theorem dX10_kind_88 : decode cX10_kind 88 = .ok (.ireturn, 1) := by decide +kernel
theorem dX10_prior_0 : decode cX10_prior 0 = .ok (.iload_n 1, 1) := by decide +kernel
theorem dX10_prior_1 : decode cX10_prior 1 = .ok (.invokestatic 129, 3) := by decide +kernel
theorem dX10_prior_4 : decode cX10_prior 4 = .ok (.ifCond .eq 15, 3) := by decide +kernel
theorem dX10_prior_7 : decode cX10_prior 7 = .ok (.iload_n 2, 1) := by decide +kernel
theorem dX10_prior_8 : decode cX10_prior 8 = .ok (.i2l, 1) := by decide +kernel
theorem dX10_prior_9 : decode cX10_prior 9 = .ok (.lconst 1, 1) := by decide +kernel
theorem dX10_prior_10 : decode cX10_prior 10 = .ok (.ldc2_w 125, 3) := by decide +kernel
theorem dX10_prior_13 : decode cX10_prior 13 = .ok (.invokestatic 105, 3) := by decide +kernel
theorem dX10_prior_16 : decode cX10_prior 16 = .ok (.ifCond .ne 10, 3) := by decide +kernel
theorem dX10_prior_19 : decode cX10_prior 19 = .ok (.aload_n 0, 1) := by decide +kernel
theorem dX10_prior_20 : decode cX10_prior 20 = .ok (.bipush (-2), 2) := by decide +kernel
theorem dX10_prior_22 : decode cX10_prior 22 = .ok (.invokevirtual 118, 3) := by decide +kernel
theorem dX10_prior_25 : decode cX10_prior 25 = .ok (.ireturn, 1) := by decide +kernel
theorem dX10_prior_26 : decode cX10_prior 26 = .ok (.aload_n 0, 1) := by decide +kernel
theorem dX10_prior_27 : decode cX10_prior 27 = .ok (.getfield 7, 3) := by decide +kernel
theorem dX10_prior_30 : decode cX10_prior 30 = .ok (.bipush 30, 2) := by decide +kernel
theorem dX10_prior_32 : decode cX10_prior 32 = .ok (.iload_n 1, 1) := by decide +kernel
theorem dX10_prior_33 : decode cX10_prior 33 = .ok (.iadd, 1) := by decide +kernel
theorem dX10_prior_34 : decode cX10_prior 34 = .ok (.iaload, 1) := by decide +kernel
theorem dX10_prior_35 : decode cX10_prior 35 = .ok (.istore_n 3, 1) := by decide +kernel
theorem dX10_prior_36 : decode cX10_prior 36 = .ok (.aload_n 0, 1) := by decide +kernel
theorem dX10_prior_37 : decode cX10_prior 37 = .ok (.getfield 7, 3) := by decide +kernel
theorem dX10_prior_40 : decode cX10_prior 40 = .ok (.bipush 30, 2) := by decide +kernel
theorem dX10_prior_42 : decode cX10_prior 42 = .ok (.iload_n 1, 1) := by decide +kernel
theorem dX10_prior_43 : decode cX10_prior 43 = .ok (.iadd, 1) := by decide +kernel
theorem dX10_prior_44 : decode cX10_prior 44 = .ok (.iload_n 2, 1) := by decide +kernel
theorem dX10_prior_45 : decode cX10_prior 45 = .ok (.iastore, 1) := by decide +kernel
theorem dX10_prior_46 : decode cX10_prior 46 = .ok (.iload_n 3, 1) := by decide +kernel
theorem dX10_prior_47 : decode cX10_prior 47 = .ok (.ireturn, 1) := by decide +kernel
theorem dX10_textLong_0 : decode cX10_textLong 0 = .ok (.aload_n 0, 1) := by decide +kernel
theorem dX10_textLong_1 : decode cX10_textLong 1 = .ok (.getfield 7, 3) := by decide +kernel
theorem dX10_textLong_4 : decode cX10_textLong 4 = .ok (.bipush 34, 2) := by decide +kernel
theorem dX10_textLong_6 : decode cX10_textLong 6 = .ok (.bipush 121, 2) := by decide +kernel
theorem dX10_textLong_8 : decode cX10_textLong 8 = .ok (.iload_n 1, 1) := by decide +kernel
theorem dX10_textLong_9 : decode cX10_textLong 9 = .ok (.imul, 1) := by decide +kernel
theorem dX10_textLong_10 : decode cX10_textLong 10 = .ok (.iadd, 1) := by decide +kernel
theorem dX10_textLong_11 : decode cX10_textLong 11 = .ok (.iaload, 1) := by decide +kernel
theorem dX10_textLong_12 : decode cX10_textLong 12 = .ok (.ireturn, 1) := by decide +kernel
theorem dX10_byteAt_0 : decode cX10_byteAt 0 = .ok (.aload_n 0, 1) := by decide +kernel
theorem dX10_byteAt_1 : decode cX10_byteAt 1 = .ok (.getfield 7, 3) := by decide +kernel
theorem dX10_byteAt_4 : decode cX10_byteAt 4 = .ok (.bipush 34, 2) := by decide +kernel
theorem dX10_byteAt_6 : decode cX10_byteAt 6 = .ok (.bipush 121, 2) := by decide +kernel
theorem dX10_byteAt_8 : decode cX10_byteAt 8 = .ok (.iload_n 1, 1) := by decide +kernel
theorem dX10_byteAt_9 : decode cX10_byteAt 9 = .ok (.imul, 1) := by decide +kernel
theorem dX10_byteAt_10 : decode cX10_byteAt 10 = .ok (.iadd, 1) := by decide +kernel
theorem dX10_byteAt_11 : decode cX10_byteAt 11 = .ok (.iconst 1, 1) := by decide +kernel
theorem dX10_byteAt_12 : decode cX10_byteAt 12 = .ok (.iadd, 1) := by decide +kernel
theorem dX10_byteAt_13 : decode cX10_byteAt 13 = .ok (.iload_n 2, 1) := by decide +kernel
theorem dX10_byteAt_14 : decode cX10_byteAt 14 = .ok (.iadd, 1) := by decide +kernel
theorem dX10_byteAt_15 : decode cX10_byteAt 15 = .ok (.iaload, 1) := by decide +kernel
theorem dX10_byteAt_16 : decode cX10_byteAt 16 = .ok (.ireturn, 1) := by decide +kernel
theorem dX10_type_0 : decode cX10_type 0 = .ok (.iload_n 1, 1) := by decide +kernel
theorem dX10_type_1 : decode cX10_type 1 = .ok (.invokestatic 129, 3) := by decide +kernel
theorem dX10_type_4 : decode cX10_type 4 = .ok (.ifCond .eq 16, 3) := by decide +kernel
theorem dX10_type_7 : decode cX10_type 7 = .ok (.iload 4, 2) := by decide +kernel
theorem dX10_type_9 : decode cX10_type 9 = .ok (.i2l, 1) := by decide +kernel
theorem dX10_type_10 : decode cX10_type 10 = .ok (.lconst 1, 1) := by decide +kernel
theorem dX10_type_11 : decode cX10_type 11 = .ok (.ldc2_w 134, 3) := by decide +kernel
theorem dX10_type_14 : decode cX10_type 14 = .ok (.invokestatic 105, 3) := by decide +kernel
theorem dX10_type_17 : decode cX10_type 17 = .ok (.ifCond .ne 10, 3) := by decide +kernel
theorem dX10_type_20 : decode cX10_type 20 = .ok (.aload_n 0, 1) := by decide +kernel
theorem dX10_type_21 : decode cX10_type 21 = .ok (.bipush (-2), 2) := by decide +kernel
theorem dX10_type_23 : decode cX10_type 23 = .ok (.invokevirtual 118, 3) := by decide +kernel
theorem dX10_type_26 : decode cX10_type 26 = .ok (.ireturn, 1) := by decide +kernel
theorem dX10_type_27 : decode cX10_type 27 = .ok (.aload_n 0, 1) := by decide +kernel
theorem dX10_type_28 : decode cX10_type 28 = .ok (.iload_n 1, 1) := by decide +kernel
theorem dX10_type_29 : decode cX10_type 29 = .ok (.invokevirtual 136, 3) := by decide +kernel
theorem dX10_type_32 : decode cX10_type 32 = .ok (.iload 4, 2) := by decide +kernel
theorem dX10_type_34 : decode cX10_type 34 = .ok (.iadd, 1) := by decide +kernel
theorem dX10_type_35 : decode cX10_type 35 = .ok (.bipush 120, 2) := by decide +kernel
theorem dX10_type_37 : decode cX10_type 37 = .ok (.if_icmp .le 8, 3) := by decide +kernel
theorem dX10_type_40 : decode cX10_type 40 = .ok (.aload_n 0, 1) := by decide +kernel
theorem dX10_type_41 : decode cX10_type 41 = .ok (.invokevirtual 122, 3) := by decide +kernel
theorem dX10_type_44 : decode cX10_type 44 = .ok (.ireturn, 1) := by decide +kernel
theorem dX10_type_45 : decode cX10_type 45 = .ok (.iload 4, 2) := by decide +kernel
theorem dX10_type_47 : decode cX10_type 47 = .ok (.iconst 1, 1) := by decide +kernel
theorem dX10_type_48 : decode cX10_type 48 = .ok (.isub, 1) := by decide +kernel
theorem dX10_type_49 : decode cX10_type 49 = .ok (.istore 5, 2) := by decide +kernel
theorem dX10_type_51 : decode cX10_type 51 = .ok (.iload 5, 2) := by decide +kernel
theorem dX10_type_53 : decode cX10_type 53 = .ok (.ifCond .lt 57, 3) := by decide +kernel
theorem dX10_type_56 : decode cX10_type 56 = .ok (.aload_n 0, 1) := by decide +kernel
theorem dX10_type_57 : decode cX10_type 57 = .ok (.getfield 7, 3) := by decide +kernel
theorem dX10_type_60 : decode cX10_type 60 = .ok (.bipush 34, 2) := by decide +kernel
theorem dX10_type_62 : decode cX10_type 62 = .ok (.bipush 121, 2) := by decide +kernel
theorem dX10_type_64 : decode cX10_type 64 = .ok (.iload_n 1, 1) := by decide +kernel
theorem dX10_type_65 : decode cX10_type 65 = .ok (.imul, 1) := by decide +kernel
theorem dX10_type_66 : decode cX10_type 66 = .ok (.iadd, 1) := by decide +kernel
theorem dX10_type_67 : decode cX10_type 67 = .ok (.iconst 1, 1) := by decide +kernel
theorem dX10_type_68 : decode cX10_type 68 = .ok (.iadd, 1) := by decide +kernel
theorem dX10_type_69 : decode cX10_type 69 = .ok (.aload_n 0, 1) := by decide +kernel
theorem dX10_type_70 : decode cX10_type 70 = .ok (.iload_n 1, 1) := by decide +kernel
theorem dX10_type_71 : decode cX10_type 71 = .ok (.invokevirtual 136, 3) := by decide +kernel
theorem dX10_type_74 : decode cX10_type 74 = .ok (.iadd, 1) := by decide +kernel
theorem dX10_type_75 : decode cX10_type 75 = .ok (.lload_n 2, 1) := by decide +kernel
theorem dX10_type_76 : decode cX10_type 76 = .ok (.bipush 8, 2) := by decide +kernel
theorem dX10_type_78 : decode cX10_type 78 = .ok (.iload 5, 2) := by decide +kernel
theorem dX10_type_80 : decode cX10_type 80 = .ok (.imul, 1) := by decide +kernel
theorem dX10_type_81 : decode cX10_type 81 = .ok (.lushr, 1) := by decide +kernel
theorem dX10_type_82 : decode cX10_type 82 = .ok (.ldc2_w 139, 3) := by decide +kernel
theorem dX10_type_85 : decode cX10_type 85 = .ok (.land, 1) := by decide +kernel
theorem dX10_type_86 : decode cX10_type 86 = .ok (.l2i, 1) := by decide +kernel
theorem dX10_type_87 : decode cX10_type 87 = .ok (.iastore, 1) := by decide +kernel
theorem dX10_type_88 : decode cX10_type 88 = .ok (.aload_n 0, 1) := by decide +kernel
theorem dX10_type_89 : decode cX10_type 89 = .ok (.getfield 7, 3) := by decide +kernel
theorem dX10_type_92 : decode cX10_type 92 = .ok (.bipush 34, 2) := by decide +kernel
theorem dX10_type_94 : decode cX10_type 94 = .ok (.bipush 121, 2) := by decide +kernel
theorem dX10_type_96 : decode cX10_type 96 = .ok (.iload_n 1, 1) := by decide +kernel
theorem dX10_type_97 : decode cX10_type 97 = .ok (.imul, 1) := by decide +kernel
theorem dX10_type_98 : decode cX10_type 98 = .ok (.iadd, 1) := by decide +kernel
theorem dX10_type_99 : decode cX10_type 99 = .ok (.dup2, 1) := by decide +kernel
theorem dX10_type_100 : decode cX10_type 100 = .ok (.iaload, 1) := by decide +kernel
theorem dX10_type_101 : decode cX10_type 101 = .ok (.iconst 1, 1) := by decide +kernel
theorem dX10_type_102 : decode cX10_type 102 = .ok (.iadd, 1) := by decide +kernel
theorem dX10_type_103 : decode cX10_type 103 = .ok (.iastore, 1) := by decide +kernel
theorem dX10_type_104 : decode cX10_type 104 = .ok (.iinc 5 (-1), 3) := by decide +kernel
theorem dX10_type_107 : decode cX10_type 107 = .ok (.goto (-56), 3) := by decide +kernel
theorem dX10_type_110 : decode cX10_type 110 = .ok (.aload_n 0, 1) := by decide +kernel
theorem dX10_type_111 : decode cX10_type 111 = .ok (.iload_n 1, 1) := by decide +kernel
theorem dX10_type_112 : decode cX10_type 112 = .ok (.invokevirtual 136, 3) := by decide +kernel
theorem dX10_type_115 : decode cX10_type 115 = .ok (.ireturn, 1) := by decide +kernel
theorem dX10_clear_0 : decode cX10_clear 0 = .ok (.iload_n 1, 1) := by decide +kernel
theorem dX10_clear_1 : decode cX10_clear 1 = .ok (.invokestatic 129, 3) := by decide +kernel
theorem dX10_clear_4 : decode cX10_clear 4 = .ok (.ifCond .ne 10, 3) := by decide +kernel
theorem dX10_clear_7 : decode cX10_clear 7 = .ok (.aload_n 0, 1) := by decide +kernel
theorem dX10_clear_8 : decode cX10_clear 8 = .ok (.bipush (-2), 2) := by decide +kernel
theorem dX10_clear_10 : decode cX10_clear 10 = .ok (.invokevirtual 118, 3) := by decide +kernel
theorem dX10_clear_13 : decode cX10_clear 13 = .ok (.ireturn, 1) := by decide +kernel
theorem dX10_clear_14 : decode cX10_clear 14 = .ok (.aload_n 0, 1) := by decide +kernel
theorem dX10_clear_15 : decode cX10_clear 15 = .ok (.iload_n 1, 1) := by decide +kernel
theorem dX10_clear_16 : decode cX10_clear 16 = .ok (.invokevirtual 136, 3) := by decide +kernel
theorem dX10_clear_19 : decode cX10_clear 19 = .ok (.istore_n 2, 1) := by decide +kernel
theorem dX10_clear_20 : decode cX10_clear 20 = .ok (.aload_n 0, 1) := by decide +kernel
theorem dX10_clear_21 : decode cX10_clear 21 = .ok (.getfield 7, 3) := by decide +kernel
theorem dX10_clear_24 : decode cX10_clear 24 = .ok (.bipush 34, 2) := by decide +kernel
theorem dX10_clear_26 : decode cX10_clear 26 = .ok (.bipush 121, 2) := by decide +kernel
theorem dX10_clear_28 : decode cX10_clear 28 = .ok (.iload_n 1, 1) := by decide +kernel
theorem dX10_clear_29 : decode cX10_clear 29 = .ok (.imul, 1) := by decide +kernel
theorem dX10_clear_30 : decode cX10_clear 30 = .ok (.iadd, 1) := by decide +kernel
theorem dX10_clear_31 : decode cX10_clear 31 = .ok (.iconst 0, 1) := by decide +kernel
theorem dX10_clear_32 : decode cX10_clear 32 = .ok (.iastore, 1) := by decide +kernel
theorem dX10_clear_33 : decode cX10_clear 33 = .ok (.iload_n 2, 1) := by decide +kernel
theorem dX10_clear_34 : decode cX10_clear 34 = .ok (.ireturn, 1) := by decide +kernel
theorem dX10_isSmall_0 : decode cX10_isSmall 0 = .ok (.iload_n 0, 1) := by decide +kernel
theorem dX10_isSmall_1 : decode cX10_isSmall 1 = .ok (.i2l, 1) := by decide +kernel
theorem dX10_isSmall_2 : decode cX10_isSmall 2 = .ok (.ldc2_w 141, 3) := by decide +kernel
theorem dX10_isSmall_5 : decode cX10_isSmall 5 = .ok (.ldc2_w 143, 3) := by decide +kernel
theorem dX10_isSmall_8 : decode cX10_isSmall 8 = .ok (.invokestatic 105, 3) := by decide +kernel
theorem dX10_isSmall_11 : decode cX10_isSmall 11 = .ok (.ireturn, 1) := by decide +kernel
theorem dX10_isFigure_0 : decode cX10_isFigure 0 = .ok (.iload_n 0, 1) := by decide +kernel
theorem dX10_isFigure_1 : decode cX10_isFigure 1 = .ok (.i2l, 1) := by decide +kernel
theorem dX10_isFigure_2 : decode cX10_isFigure 2 = .ok (.ldc2_w 145, 3) := by decide +kernel
theorem dX10_isFigure_5 : decode cX10_isFigure 5 = .ok (.ldc2_w 147, 3) := by decide +kernel
theorem dX10_isFigure_8 : decode cX10_isFigure 8 = .ok (.invokestatic 105, 3) := by decide +kernel
theorem dX10_isFigure_11 : decode cX10_isFigure 11 = .ok (.ireturn, 1) := by decide +kernel
theorem dX10_look_0 : decode cX10_look 0 = .ok (.aload_n 0, 1) := by decide +kernel
theorem dX10_look_1 : decode cX10_look 1 = .ok (.iload_n 1, 1) := by decide +kernel
theorem dX10_look_2 : decode cX10_look 2 = .ok (.putfield 149, 3) := by decide +kernel
theorem dX10_look_5 : decode cX10_look 5 = .ok (.aload_n 0, 1) := by decide +kernel
theorem dX10_look_6 : decode cX10_look 6 = .ok (.getfield 149, 3) := by decide +kernel
theorem dX10_look_9 : decode cX10_look 9 = .ok (.aload_n 0, 1) := by decide +kernel
theorem dX10_look_10 : decode cX10_look 10 = .ok (.aload_n 0, 1) := by decide +kernel
theorem dX10_look_11 : decode cX10_look 11 = .ok (.getfield 152, 3) := by decide +kernel
theorem dX10_look_14 : decode cX10_look 14 = .ok (.invokevirtual 136, 3) := by decide +kernel
theorem dX10_look_17 : decode cX10_look 17 = .ok (.if_icmp .ge 33, 3) := by decide +kernel
theorem dX10_look_20 : decode cX10_look 20 = .ok (.aload_n 0, 1) := by decide +kernel
theorem dX10_look_21 : decode cX10_look 21 = .ok (.aload_n 0, 1) := by decide +kernel
theorem dX10_look_22 : decode cX10_look 22 = .ok (.getfield 152, 3) := by decide +kernel
theorem dX10_look_25 : decode cX10_look 25 = .ok (.aload_n 0, 1) := by decide +kernel
theorem dX10_look_26 : decode cX10_look 26 = .ok (.getfield 149, 3) := by decide +kernel
theorem dX10_look_29 : decode cX10_look 29 = .ok (.invokevirtual 155, 3) := by decide +kernel
theorem dX10_look_32 : decode cX10_look 32 = .ok (.bipush 32, 2) := by decide +kernel
theorem dX10_look_34 : decode cX10_look 34 = .ok (.if_icmp .ne 16, 3) := by decide +kernel
theorem dX10_look_37 : decode cX10_look 37 = .ok (.aload_n 0, 1) := by decide +kernel
theorem dX10_look_38 : decode cX10_look 38 = .ok (.dup, 1) := by decide +kernel
theorem dX10_look_39 : decode cX10_look 39 = .ok (.getfield 149, 3) := by decide +kernel
theorem dX10_look_42 : decode cX10_look 42 = .ok (.iconst 1, 1) := by decide +kernel
theorem dX10_look_43 : decode cX10_look 43 = .ok (.iadd, 1) := by decide +kernel
theorem dX10_look_44 : decode cX10_look 44 = .ok (.putfield 149, 3) := by decide +kernel
theorem dX10_look_47 : decode cX10_look 47 = .ok (.goto (-42), 3) := by decide +kernel
theorem dX10_look_50 : decode cX10_look 50 = .ok (.aload_n 0, 1) := by decide +kernel
theorem dX10_look_51 : decode cX10_look 51 = .ok (.iconst 0, 1) := by decide +kernel
theorem dX10_look_52 : decode cX10_look 52 = .ok (.putfield 158, 3) := by decide +kernel
theorem dX10_look_55 : decode cX10_look 55 = .ok (.aload_n 0, 1) := by decide +kernel
theorem dX10_look_56 : decode cX10_look 56 = .ok (.iconst 0, 1) := by decide +kernel
theorem dX10_look_57 : decode cX10_look 57 = .ok (.putfield 161, 3) := by decide +kernel
theorem dX10_look_60 : decode cX10_look 60 = .ok (.aload_n 0, 1) := by decide +kernel
theorem dX10_look_61 : decode cX10_look 61 = .ok (.iconst 0, 1) := by decide +kernel
theorem dX10_look_62 : decode cX10_look 62 = .ok (.putfield 164, 3) := by decide +kernel
theorem dX10_look_65 : decode cX10_look 65 = .ok (.aload_n 0, 1) := by decide +kernel
theorem dX10_look_66 : decode cX10_look 66 = .ok (.getfield 149, 3) := by decide +kernel
theorem dX10_look_69 : decode cX10_look 69 = .ok (.aload_n 0, 1) := by decide +kernel
theorem dX10_look_70 : decode cX10_look 70 = .ok (.aload_n 0, 1) := by decide +kernel
theorem dX10_look_71 : decode cX10_look 71 = .ok (.getfield 152, 3) := by decide +kernel
theorem dX10_look_74 : decode cX10_look 74 = .ok (.invokevirtual 136, 3) := by decide +kernel
theorem dX10_look_77 : decode cX10_look 77 = .ok (.if_icmp .ne 4, 3) := by decide +kernel
theorem dX10_look_80 : decode cX10_look 80 = .ok (.return_, 1) := by decide +kernel
theorem dX10_look_81 : decode cX10_look 81 = .ok (.aload_n 0, 1) := by decide +kernel
theorem dX10_look_82 : decode cX10_look 82 = .ok (.aload_n 0, 1) := by decide +kernel
theorem dX10_look_83 : decode cX10_look 83 = .ok (.getfield 152, 3) := by decide +kernel
theorem dX10_look_86 : decode cX10_look 86 = .ok (.aload_n 0, 1) := by decide +kernel
theorem dX10_look_87 : decode cX10_look 87 = .ok (.getfield 149, 3) := by decide +kernel
theorem dX10_look_90 : decode cX10_look 90 = .ok (.invokevirtual 155, 3) := by decide +kernel
theorem dX10_look_93 : decode cX10_look 93 = .ok (.istore_n 2, 1) := by decide +kernel
theorem dX10_look_94 : decode cX10_look 94 = .ok (.aload_n 0, 1) := by decide +kernel
theorem dX10_look_95 : decode cX10_look 95 = .ok (.iload_n 2, 1) := by decide +kernel
theorem dX10_look_96 : decode cX10_look 96 = .ok (.invokestatic 167, 3) := by decide +kernel
theorem dX10_look_99 : decode cX10_look 99 = .ok (.ifCond .eq 7, 3) := by decide +kernel
theorem dX10_look_102 : decode cX10_look 102 = .ok (.iconst 1, 1) := by decide +kernel
theorem dX10_look_103 : decode cX10_look 103 = .ok (.goto 25, 3) := by decide +kernel
theorem dX10_look_106 : decode cX10_look 106 = .ok (.iload_n 2, 1) := by decide +kernel
theorem dX10_look_107 : decode cX10_look 107 = .ok (.invokestatic 170, 3) := by decide +kernel
theorem dX10_look_110 : decode cX10_look 110 = .ok (.ifCond .eq 7, 3) := by decide +kernel
theorem dX10_look_113 : decode cX10_look 113 = .ok (.iconst 2, 1) := by decide +kernel
theorem dX10_look_114 : decode cX10_look 114 = .ok (.goto 14, 3) := by decide +kernel
theorem dX10_look_117 : decode cX10_look 117 = .ok (.iload_n 2, 1) := by decide +kernel
theorem dX10_look_118 : decode cX10_look 118 = .ok (.bipush 59, 2) := by decide +kernel
theorem dX10_look_120 : decode cX10_look 120 = .ok (.if_icmp .ne 7, 3) := by decide +kernel
theorem dX10_look_123 : decode cX10_look 123 = .ok (.iconst 3, 1) := by decide +kernel
theorem dX10_look_124 : decode cX10_look 124 = .ok (.goto 4, 3) := by decide +kernel
theorem dX10_look_127 : decode cX10_look 127 = .ok (.iconst 4, 1) := by decide +kernel
theorem dX10_look_128 : decode cX10_look 128 = .ok (.putfield 161, 3) := by decide +kernel
theorem dX10_look_131 : decode cX10_look 131 = .ok (.aload_n 0, 1) := by decide +kernel
theorem dX10_look_132 : decode cX10_look 132 = .ok (.iconst 1, 1) := by decide +kernel
theorem dX10_look_133 : decode cX10_look 133 = .ok (.putfield 158, 3) := by decide +kernel
theorem dX10_look_136 : decode cX10_look 136 = .ok (.aload_n 0, 1) := by decide +kernel
theorem dX10_look_137 : decode cX10_look 137 = .ok (.getfield 161, 3) := by decide +kernel
theorem dX10_look_140 : decode cX10_look 140 = .ok (.iconst 3, 1) := by decide +kernel
theorem dX10_look_141 : decode cX10_look 141 = .ok (.if_icmp .ge 7, 3) := by decide +kernel
theorem dX10_look_144 : decode cX10_look 144 = .ok (.iconst 1, 1) := by decide +kernel
theorem dX10_look_145 : decode cX10_look 145 = .ok (.goto 4, 3) := by decide +kernel
theorem dX10_look_148 : decode cX10_look 148 = .ok (.iconst 0, 1) := by decide +kernel
theorem dX10_look_149 : decode cX10_look 149 = .ok (.istore_n 3, 1) := by decide +kernel
theorem dX10_look_150 : decode cX10_look 150 = .ok (.iload_n 3, 1) := by decide +kernel
theorem dX10_look_151 : decode cX10_look 151 = .ok (.ifCond .eq 85, 3) := by decide +kernel
theorem dX10_look_154 : decode cX10_look 154 = .ok (.aload_n 0, 1) := by decide +kernel
theorem dX10_look_155 : decode cX10_look 155 = .ok (.getfield 149, 3) := by decide +kernel
theorem dX10_look_158 : decode cX10_look 158 = .ok (.aload_n 0, 1) := by decide +kernel
theorem dX10_look_159 : decode cX10_look 159 = .ok (.getfield 158, 3) := by decide +kernel
theorem dX10_look_162 : decode cX10_look 162 = .ok (.iadd, 1) := by decide +kernel
theorem dX10_look_163 : decode cX10_look 163 = .ok (.aload_n 0, 1) := by decide +kernel
theorem dX10_look_164 : decode cX10_look 164 = .ok (.aload_n 0, 1) := by decide +kernel
theorem dX10_look_165 : decode cX10_look 165 = .ok (.getfield 152, 3) := by decide +kernel
theorem dX10_look_168 : decode cX10_look 168 = .ok (.invokevirtual 136, 3) := by decide +kernel
theorem dX10_look_171 : decode cX10_look 171 = .ok (.if_icmp .ge 65, 3) := by decide +kernel
theorem dX10_look_174 : decode cX10_look 174 = .ok (.aload_n 0, 1) := by decide +kernel
theorem dX10_look_175 : decode cX10_look 175 = .ok (.aload_n 0, 1) := by decide +kernel
theorem dX10_look_176 : decode cX10_look 176 = .ok (.getfield 152, 3) := by decide +kernel
theorem dX10_look_179 : decode cX10_look 179 = .ok (.aload_n 0, 1) := by decide +kernel
theorem dX10_look_180 : decode cX10_look 180 = .ok (.getfield 149, 3) := by decide +kernel
theorem dX10_look_183 : decode cX10_look 183 = .ok (.aload_n 0, 1) := by decide +kernel
theorem dX10_look_184 : decode cX10_look 184 = .ok (.getfield 158, 3) := by decide +kernel
theorem dX10_look_187 : decode cX10_look 187 = .ok (.iadd, 1) := by decide +kernel
theorem dX10_look_188 : decode cX10_look 188 = .ok (.invokevirtual 155, 3) := by decide +kernel
theorem dX10_look_191 : decode cX10_look 191 = .ok (.istore 4, 2) := by decide +kernel
theorem dX10_look_193 : decode cX10_look 193 = .ok (.aload_n 0, 1) := by decide +kernel
theorem dX10_look_194 : decode cX10_look 194 = .ok (.getfield 161, 3) := by decide +kernel
theorem dX10_look_197 : decode cX10_look 197 = .ok (.iconst 1, 1) := by decide +kernel
theorem dX10_look_198 : decode cX10_look 198 = .ok (.if_icmp .ne 11, 3) := by decide +kernel
theorem dX10_look_201 : decode cX10_look 201 = .ok (.iload 4, 2) := by decide +kernel
theorem dX10_look_203 : decode cX10_look 203 = .ok (.invokestatic 167, 3) := by decide +kernel
theorem dX10_look_206 : decode cX10_look 206 = .ok (.goto 8, 3) := by decide +kernel
theorem dX10_look_209 : decode cX10_look 209 = .ok (.iload 4, 2) := by decide +kernel
theorem dX10_look_211 : decode cX10_look 211 = .ok (.invokestatic 170, 3) := by decide +kernel
theorem dX10_look_214 : decode cX10_look 214 = .ok (.istore_n 3, 1) := by decide +kernel
theorem dX10_look_215 : decode cX10_look 215 = .ok (.aload_n 0, 1) := by decide +kernel
theorem dX10_look_216 : decode cX10_look 216 = .ok (.dup, 1) := by decide +kernel
theorem dX10_look_217 : decode cX10_look 217 = .ok (.getfield 158, 3) := by decide +kernel
theorem dX10_look_220 : decode cX10_look 220 = .ok (.iload_n 3, 1) := by decide +kernel
theorem dX10_look_221 : decode cX10_look 221 = .ok (.ifCond .eq 7, 3) := by decide +kernel
theorem dX10_look_224 : decode cX10_look 224 = .ok (.iconst 1, 1) := by decide +kernel
theorem dX10_look_225 : decode cX10_look 225 = .ok (.goto 4, 3) := by decide +kernel
theorem dX10_look_228 : decode cX10_look 228 = .ok (.iconst 0, 1) := by decide +kernel
theorem dX10_look_229 : decode cX10_look 229 = .ok (.iadd, 1) := by decide +kernel
theorem dX10_look_230 : decode cX10_look 230 = .ok (.putfield 158, 3) := by decide +kernel
theorem dX10_look_233 : decode cX10_look 233 = .ok (.goto (-83), 3) := by decide +kernel
theorem dX10_look_236 : decode cX10_look 236 = .ok (.iconst 0, 1) := by decide +kernel
theorem dX10_look_237 : decode cX10_look 237 = .ok (.istore 4, 2) := by decide +kernel
theorem dX10_look_239 : decode cX10_look 239 = .ok (.iload 4, 2) := by decide +kernel
theorem dX10_look_241 : decode cX10_look 241 = .ok (.aload_n 0, 1) := by decide +kernel
theorem dX10_look_242 : decode cX10_look 242 = .ok (.getfield 158, 3) := by decide +kernel
theorem dX10_look_245 : decode cX10_look 245 = .ok (.if_icmp .ge 53, 3) := by decide +kernel
theorem dX10_look_248 : decode cX10_look 248 = .ok (.iload 4, 2) := by decide +kernel
theorem dX10_look_250 : decode cX10_look 250 = .ok (.iconst 3, 1) := by decide +kernel
theorem dX10_look_251 : decode cX10_look 251 = .ok (.if_icmp .ge 47, 3) := by decide +kernel
theorem dX10_look_254 : decode cX10_look 254 = .ok (.aload_n 0, 1) := by decide +kernel
theorem dX10_look_255 : decode cX10_look 255 = .ok (.getfield 161, 3) := by decide +kernel
theorem dX10_look_258 : decode cX10_look 258 = .ok (.iconst 2, 1) := by decide +kernel
theorem dX10_look_259 : decode cX10_look 259 = .ok (.if_icmp .ne 39, 3) := by decide +kernel
theorem dX10_look_262 : decode cX10_look 262 = .ok (.aload_n 0, 1) := by decide +kernel
theorem dX10_look_263 : decode cX10_look 263 = .ok (.bipush 10, 2) := by decide +kernel
theorem dX10_look_265 : decode cX10_look 265 = .ok (.aload_n 0, 1) := by decide +kernel
theorem dX10_look_266 : decode cX10_look 266 = .ok (.getfield 164, 3) := by decide +kernel
theorem dX10_look_269 : decode cX10_look 269 = .ok (.imul, 1) := by decide +kernel
theorem dX10_look_270 : decode cX10_look 270 = .ok (.aload_n 0, 1) := by decide +kernel
theorem dX10_look_271 : decode cX10_look 271 = .ok (.aload_n 0, 1) := by decide +kernel
theorem dX10_look_272 : decode cX10_look 272 = .ok (.getfield 152, 3) := by decide +kernel
theorem dX10_look_275 : decode cX10_look 275 = .ok (.aload_n 0, 1) := by decide +kernel
theorem dX10_look_276 : decode cX10_look 276 = .ok (.getfield 149, 3) := by decide +kernel
theorem dX10_look_279 : decode cX10_look 279 = .ok (.iload 4, 2) := by decide +kernel
theorem dX10_look_281 : decode cX10_look 281 = .ok (.iadd, 1) := by decide +kernel
theorem dX10_look_282 : decode cX10_look 282 = .ok (.invokevirtual 155, 3) := by decide +kernel
theorem dX10_look_285 : decode cX10_look 285 = .ok (.iadd, 1) := by decide +kernel
theorem dX10_look_286 : decode cX10_look 286 = .ok (.bipush 48, 2) := by decide +kernel
theorem dX10_look_288 : decode cX10_look 288 = .ok (.isub, 1) := by decide +kernel
theorem dX10_look_289 : decode cX10_look 289 = .ok (.putfield 164, 3) := by decide +kernel
theorem dX10_look_292 : decode cX10_look 292 = .ok (.iinc 4 1, 3) := by decide +kernel
theorem dX10_look_295 : decode cX10_look 295 = .ok (.goto (-56), 3) := by decide +kernel
theorem dX10_look_298 : decode cX10_look 298 = .ok (.aload_n 0, 1) := by decide +kernel
theorem dX10_look_299 : decode cX10_look 299 = .ok (.aload_n 0, 1) := by decide +kernel
theorem dX10_look_300 : decode cX10_look 300 = .ok (.getfield 161, 3) := by decide +kernel
theorem dX10_look_303 : decode cX10_look 303 = .ok (.iconst 2, 1) := by decide +kernel
theorem dX10_look_304 : decode cX10_look 304 = .ok (.if_icmp .ne 15, 3) := by decide +kernel
theorem dX10_look_307 : decode cX10_look 307 = .ok (.aload_n 0, 1) := by decide +kernel
theorem dX10_look_308 : decode cX10_look 308 = .ok (.getfield 158, 3) := by decide +kernel
theorem dX10_look_311 : decode cX10_look 311 = .ok (.iconst 3, 1) := by decide +kernel
theorem dX10_look_312 : decode cX10_look 312 = .ok (.if_icmp .le 7, 3) := by decide +kernel
theorem dX10_look_315 : decode cX10_look 315 = .ok (.iconst 4, 1) := by decide +kernel
theorem dX10_look_316 : decode cX10_look 316 = .ok (.goto 7, 3) := by decide +kernel
theorem dX10_look_319 : decode cX10_look 319 = .ok (.aload_n 0, 1) := by decide +kernel
theorem dX10_look_320 : decode cX10_look 320 = .ok (.getfield 161, 3) := by decide +kernel
theorem dX10_look_323 : decode cX10_look 323 = .ok (.putfield 161, 3) := by decide +kernel
theorem dX10_look_326 : decode cX10_look 326 = .ok (.return_, 1) := by decide +kernel
theorem dX10_goOn_0 : decode cX10_goOn 0 = .ok (.aload_n 0, 1) := by decide +kernel
theorem dX10_goOn_1 : decode cX10_goOn 1 = .ok (.aload_n 0, 1) := by decide +kernel
theorem dX10_goOn_2 : decode cX10_goOn 2 = .ok (.getfield 149, 3) := by decide +kernel
theorem dX10_goOn_5 : decode cX10_goOn 5 = .ok (.aload_n 0, 1) := by decide +kernel
theorem dX10_goOn_6 : decode cX10_goOn 6 = .ok (.getfield 158, 3) := by decide +kernel
theorem dX10_goOn_9 : decode cX10_goOn 9 = .ok (.iadd, 1) := by decide +kernel
theorem dX10_goOn_10 : decode cX10_goOn 10 = .ok (.invokevirtual 173, 3) := by decide +kernel
theorem dX10_goOn_13 : decode cX10_goOn 13 = .ok (.return_, 1) := by decide +kernel
theorem dX10_isWord_0 : decode cX10_isWord 0 = .ok (.iload_n 3, 1) := by decide +kernel
theorem dX10_isWord_1 : decode cX10_isWord 1 = .ok (.ifCond .ne 7, 3) := by decide +kernel
theorem dX10_isWord_4 : decode cX10_isWord 4 = .ok (.iconst 2, 1) := by decide +kernel
theorem dX10_isWord_5 : decode cX10_isWord 5 = .ok (.goto 22, 3) := by decide +kernel
theorem dX10_isWord_8 : decode cX10_isWord 8 = .ok (.iload 4, 2) := by decide +kernel
theorem dX10_isWord_10 : decode cX10_isWord 10 = .ok (.ifCond .ne 7, 3) := by decide +kernel
theorem dX10_isWord_13 : decode cX10_isWord 13 = .ok (.iconst 3, 1) := by decide +kernel
theorem dX10_isWord_14 : decode cX10_isWord 14 = .ok (.goto 13, 3) := by decide +kernel
theorem dX10_isWord_17 : decode cX10_isWord 17 = .ok (.iload 5, 2) := by decide +kernel
theorem dX10_isWord_19 : decode cX10_isWord 19 = .ok (.ifCond .ne 7, 3) := by decide +kernel
theorem dX10_isWord_22 : decode cX10_isWord 22 = .ok (.iconst 4, 1) := by decide +kernel
theorem dX10_isWord_23 : decode cX10_isWord 23 = .ok (.goto 4, 3) := by decide +kernel
theorem dX10_isWord_26 : decode cX10_isWord 26 = .ok (.iconst 5, 1) := by decide +kernel
theorem dX10_isWord_27 : decode cX10_isWord 27 = .ok (.istore 6, 2) := by decide +kernel
theorem dX10_isWord_29 : decode cX10_isWord 29 = .ok (.aload_n 0, 1) := by decide +kernel
theorem dX10_isWord_30 : decode cX10_isWord 30 = .ok (.getfield 161, 3) := by decide +kernel
theorem dX10_isWord_33 : decode cX10_isWord 33 = .ok (.iconst 1, 1) := by decide +kernel
theorem dX10_isWord_34 : decode cX10_isWord 34 = .ok (.if_icmp .ne 16, 3) := by decide +kernel
theorem dX10_isWord_37 : decode cX10_isWord 37 = .ok (.aload_n 0, 1) := by decide +kernel
theorem dX10_isWord_38 : decode cX10_isWord 38 = .ok (.getfield 158, 3) := by decide +kernel
theorem dX10_isWord_41 : decode cX10_isWord 41 = .ok (.iload 6, 2) := by decide +kernel
theorem dX10_isWord_43 : decode cX10_isWord 43 = .ok (.if_icmp .ne 7, 3) := by decide +kernel
theorem dX10_isWord_46 : decode cX10_isWord 46 = .ok (.iconst 1, 1) := by decide +kernel
theorem dX10_isWord_47 : decode cX10_isWord 47 = .ok (.goto 4, 3) := by decide +kernel
theorem dX10_isWord_50 : decode cX10_isWord 50 = .ok (.iconst 0, 1) := by decide +kernel
theorem dX10_isWord_51 : decode cX10_isWord 51 = .ok (.istore 7, 2) := by decide +kernel
theorem dX10_isWord_53 : decode cX10_isWord 53 = .ok (.iconst 0, 1) := by decide +kernel
theorem dX10_isWord_54 : decode cX10_isWord 54 = .ok (.istore 8, 2) := by decide +kernel
theorem dX10_isWord_56 : decode cX10_isWord 56 = .ok (.iload 8, 2) := by decide +kernel
theorem dX10_isWord_58 : decode cX10_isWord 58 = .ok (.iload 6, 2) := by decide +kernel
theorem dX10_isWord_60 : decode cX10_isWord 60 = .ok (.if_icmp .ge 81, 3) := by decide +kernel
theorem dX10_isWord_63 : decode cX10_isWord 63 = .ok (.iload 7, 2) := by decide +kernel
theorem dX10_isWord_65 : decode cX10_isWord 65 = .ok (.ifCond .eq 76, 3) := by decide +kernel
theorem dX10_isWord_68 : decode cX10_isWord 68 = .ok (.aload_n 0, 1) := by decide +kernel
theorem dX10_isWord_69 : decode cX10_isWord 69 = .ok (.aload_n 0, 1) := by decide +kernel
theorem dX10_isWord_70 : decode cX10_isWord 70 = .ok (.getfield 152, 3) := by decide +kernel
theorem dX10_isWord_73 : decode cX10_isWord 73 = .ok (.aload_n 0, 1) := by decide +kernel
theorem dX10_isWord_74 : decode cX10_isWord 74 = .ok (.getfield 149, 3) := by decide +kernel
theorem dX10_isWord_77 : decode cX10_isWord 77 = .ok (.iload 8, 2) := by decide +kernel
theorem dX10_isWord_79 : decode cX10_isWord 79 = .ok (.iadd, 1) := by decide +kernel
theorem dX10_isWord_80 : decode cX10_isWord 80 = .ok (.invokevirtual 155, 3) := by decide +kernel
theorem dX10_isWord_83 : decode cX10_isWord 83 = .ok (.iload 8, 2) := by decide +kernel
theorem dX10_isWord_85 : decode cX10_isWord 85 = .ok (.ifCond .ne 7, 3) := by decide +kernel
theorem dX10_isWord_88 : decode cX10_isWord 88 = .ok (.iload_n 1, 1) := by decide +kernel
theorem dX10_isWord_89 : decode cX10_isWord 89 = .ok (.goto 36, 3) := by decide +kernel
theorem dX10_isWord_92 : decode cX10_isWord 92 = .ok (.iload 8, 2) := by decide +kernel
theorem dX10_isWord_94 : decode cX10_isWord 94 = .ok (.iconst 1, 1) := by decide +kernel
theorem dX10_isWord_95 : decode cX10_isWord 95 = .ok (.if_icmp .ne 7, 3) := by decide +kernel
theorem dX10_isWord_98 : decode cX10_isWord 98 = .ok (.iload_n 2, 1) := by decide +kernel
theorem dX10_isWord_99 : decode cX10_isWord 99 = .ok (.goto 26, 3) := by decide +kernel
theorem dX10_isWord_102 : decode cX10_isWord 102 = .ok (.iload 8, 2) := by decide +kernel
theorem dX10_isWord_104 : decode cX10_isWord 104 = .ok (.iconst 2, 1) := by decide +kernel
theorem dX10_isWord_105 : decode cX10_isWord 105 = .ok (.if_icmp .ne 7, 3) := by decide +kernel
theorem dX10_isWord_108 : decode cX10_isWord 108 = .ok (.iload_n 3, 1) := by decide +kernel
theorem dX10_isWord_109 : decode cX10_isWord 109 = .ok (.goto 16, 3) := by decide +kernel
theorem dX10_isWord_112 : decode cX10_isWord 112 = .ok (.iload 8, 2) := by decide +kernel
theorem dX10_isWord_114 : decode cX10_isWord 114 = .ok (.iconst 3, 1) := by decide +kernel
theorem dX10_isWord_115 : decode cX10_isWord 115 = .ok (.if_icmp .ne 8, 3) := by decide +kernel
theorem dX10_isWord_118 : decode cX10_isWord 118 = .ok (.iload 4, 2) := by decide +kernel
theorem dX10_isWord_120 : decode cX10_isWord 120 = .ok (.goto 5, 3) := by decide +kernel
theorem dX10_isWord_123 : decode cX10_isWord 123 = .ok (.iload 5, 2) := by decide +kernel
theorem dX10_isWord_125 : decode cX10_isWord 125 = .ok (.if_icmp .ne 7, 3) := by decide +kernel
theorem dX10_isWord_128 : decode cX10_isWord 128 = .ok (.iconst 1, 1) := by decide +kernel
theorem dX10_isWord_129 : decode cX10_isWord 129 = .ok (.goto 4, 3) := by decide +kernel
theorem dX10_isWord_132 : decode cX10_isWord 132 = .ok (.iconst 0, 1) := by decide +kernel
theorem dX10_isWord_133 : decode cX10_isWord 133 = .ok (.istore 7, 2) := by decide +kernel
theorem dX10_isWord_135 : decode cX10_isWord 135 = .ok (.iinc 8 1, 3) := by decide +kernel
theorem dX10_isWord_138 : decode cX10_isWord 138 = .ok (.goto (-82), 3) := by decide +kernel
theorem dX10_isWord_141 : decode cX10_isWord 141 = .ok (.iload 7, 2) := by decide +kernel
theorem dX10_isWord_143 : decode cX10_isWord 143 = .ok (.ireturn, 1) := by decide +kernel
theorem dX10_layFrom_0 : decode cX10_layFrom 0 = .ok (.iload_n 1, 1) := by decide +kernel
theorem dX10_layFrom_1 : decode cX10_layFrom 1 = .ok (.istore_n 3, 1) := by decide +kernel
theorem dX10_layFrom_2 : decode cX10_layFrom 2 = .ok (.iload_n 3, 1) := by decide +kernel
theorem dX10_layFrom_3 : decode cX10_layFrom 3 = .ok (.bipush 120, 2) := by decide +kernel
theorem dX10_layFrom_5 : decode cX10_layFrom 5 = .ok (.if_icmp .ge 24, 3) := by decide +kernel
theorem dX10_layFrom_8 : decode cX10_layFrom 8 = .ok (.aload_n 0, 1) := by decide +kernel
theorem dX10_layFrom_9 : decode cX10_layFrom 9 = .ok (.getfield 30, 3) := by decide +kernel
theorem dX10_layFrom_12 : decode cX10_layFrom 12 = .ok (.bipush 120, 2) := by decide +kernel
theorem dX10_layFrom_14 : decode cX10_layFrom 14 = .ok (.aload_n 0, 1) := by decide +kernel
theorem dX10_layFrom_15 : decode cX10_layFrom 15 = .ok (.getfield 152, 3) := by decide +kernel
theorem dX10_layFrom_18 : decode cX10_layFrom 18 = .ok (.imul, 1) := by decide +kernel
theorem dX10_layFrom_19 : decode cX10_layFrom 19 = .ok (.iload_n 3, 1) := by decide +kernel
theorem dX10_layFrom_20 : decode cX10_layFrom 20 = .ok (.iadd, 1) := by decide +kernel
theorem dX10_layFrom_21 : decode cX10_layFrom 21 = .ok (.iload_n 2, 1) := by decide +kernel
theorem dX10_layFrom_22 : decode cX10_layFrom 22 = .ok (.iastore, 1) := by decide +kernel
theorem dX10_layFrom_23 : decode cX10_layFrom 23 = .ok (.iinc 3 1, 3) := by decide +kernel
theorem dX10_layFrom_26 : decode cX10_layFrom 26 = .ok (.goto (-24), 3) := by decide +kernel
theorem dX10_layFrom_29 : decode cX10_layFrom 29 = .ok (.return_, 1) := by decide +kernel
theorem dX10_stops_0 : decode cX10_stops 0 = .ok (.aload_n 0, 1) := by decide +kernel
theorem dX10_stops_1 : decode cX10_stops 1 = .ok (.getfield 161, 3) := by decide +kernel
theorem dX10_stops_4 : decode cX10_stops 4 = .ok (.iconst 3, 1) := by decide +kernel
theorem dX10_stops_5 : decode cX10_stops 5 = .ok (.if_icmp .eq 5, 3) := by decide +kernel
theorem dX10_stops_8 : decode cX10_stops 8 = .ok (.iconst 0, 1) := by decide +kernel
theorem dX10_stops_9 : decode cX10_stops 9 = .ok (.ireturn, 1) := by decide +kernel
theorem dX10_stops_10 : decode cX10_stops 10 = .ok (.aload_n 0, 1) := by decide +kernel
theorem dX10_stops_11 : decode cX10_stops 11 = .ok (.invokevirtual 176, 3) := by decide +kernel
theorem dX10_stops_14 : decode cX10_stops 14 = .ok (.iconst 1, 1) := by decide +kernel
theorem dX10_stops_15 : decode cX10_stops 15 = .ok (.ireturn, 1) := by decide +kernel
theorem dX10_takesMonth_0 : decode cX10_takesMonth 0 = .ok (.aload_n 0, 1) := by decide +kernel
theorem dX10_takesMonth_1 : decode cX10_takesMonth 1 = .ok (.getfield 161, 3) := by decide +kernel
theorem dX10_takesMonth_4 : decode cX10_takesMonth 4 = .ok (.iconst 2, 1) := by decide +kernel
theorem dX10_takesMonth_5 : decode cX10_takesMonth 5 = .ok (.if_icmp .ne 22, 3) := by decide +kernel
theorem dX10_takesMonth_8 : decode cX10_takesMonth 8 = .ok (.aload_n 0, 1) := by decide +kernel
theorem dX10_takesMonth_9 : decode cX10_takesMonth 9 = .ok (.getfield 164, 3) := by decide +kernel
theorem dX10_takesMonth_12 : decode cX10_takesMonth 12 = .ok (.i2l, 1) := by decide +kernel
theorem dX10_takesMonth_13 : decode cX10_takesMonth 13 = .ok (.aload_n 0, 1) := by decide +kernel
theorem dX10_takesMonth_14 : decode cX10_takesMonth 14 = .ok (.getfield 179, 3) := by decide +kernel
theorem dX10_takesMonth_17 : decode cX10_takesMonth 17 = .ok (.i2l, 1) := by decide +kernel
theorem dX10_takesMonth_18 : decode cX10_takesMonth 18 = .ok (.ldc2_w 114, 3) := by decide +kernel
theorem dX10_takesMonth_21 : decode cX10_takesMonth 21 = .ok (.invokestatic 105, 3) := by decide +kernel
theorem dX10_takesMonth_24 : decode cX10_takesMonth 24 = .ok (.ifCond .ne 5, 3) := by decide +kernel
theorem dX10_takesMonth_27 : decode cX10_takesMonth 27 = .ok (.iconst 0, 1) := by decide +kernel
theorem dX10_takesMonth_28 : decode cX10_takesMonth 28 = .ok (.ireturn, 1) := by decide +kernel
theorem dX10_takesMonth_29 : decode cX10_takesMonth 29 = .ok (.aload_n 0, 1) := by decide +kernel
theorem dX10_takesMonth_30 : decode cX10_takesMonth 30 = .ok (.aload_n 0, 1) := by decide +kernel
theorem dX10_takesMonth_31 : decode cX10_takesMonth 31 = .ok (.getfield 164, 3) := by decide +kernel
theorem dX10_takesMonth_34 : decode cX10_takesMonth 34 = .ok (.putfield 179, 3) := by decide +kernel
theorem dX10_takesMonth_37 : decode cX10_takesMonth 37 = .ok (.aload_n 0, 1) := by decide +kernel
theorem dX10_takesMonth_38 : decode cX10_takesMonth 38 = .ok (.invokevirtual 176, 3) := by decide +kernel
theorem dX10_takesMonth_41 : decode cX10_takesMonth 41 = .ok (.iconst 1, 1) := by decide +kernel
theorem dX10_takesMonth_42 : decode cX10_takesMonth 42 = .ok (.ireturn, 1) := by decide +kernel
theorem dX10_readItem_0 : decode cX10_readItem 0 = .ok (.aload_n 0, 1) := by decide +kernel
theorem dX10_readItem_1 : decode cX10_readItem 1 = .ok (.bipush 103, 2) := by decide +kernel
theorem dX10_readItem_3 : decode cX10_readItem 3 = .ok (.bipush 111, 2) := by decide +kernel
theorem dX10_readItem_5 : decode cX10_readItem 5 = .ok (.iconst 0, 1) := by decide +kernel
theorem dX10_readItem_6 : decode cX10_readItem 6 = .ok (.iconst 0, 1) := by decide +kernel
theorem dX10_readItem_7 : decode cX10_readItem 7 = .ok (.iconst 0, 1) := by decide +kernel
theorem dX10_readItem_8 : decode cX10_readItem 8 = .ok (.invokevirtual 182, 3) := by decide +kernel
theorem dX10_readItem_11 : decode cX10_readItem 11 = .ok (.istore_n 1, 1) := by decide +kernel
theorem dX10_readItem_12 : decode cX10_readItem 12 = .ok (.aload_n 0, 1) := by decide +kernel
theorem dX10_readItem_13 : decode cX10_readItem 13 = .ok (.bipush 106, 2) := by decide +kernel
theorem dX10_readItem_15 : decode cX10_readItem 15 = .ok (.bipush 111, 2) := by decide +kernel
theorem dX10_readItem_17 : decode cX10_readItem 17 = .ok (.bipush 105, 2) := by decide +kernel
theorem dX10_readItem_19 : decode cX10_readItem 19 = .ok (.bipush 110, 2) := by decide +kernel
theorem dX10_readItem_21 : decode cX10_readItem 21 = .ok (.iconst 0, 1) := by decide +kernel
theorem dX10_readItem_22 : decode cX10_readItem 22 = .ok (.invokevirtual 182, 3) := by decide +kernel
theorem dX10_readItem_25 : decode cX10_readItem 25 = .ok (.istore_n 2, 1) := by decide +kernel
theorem dX10_readItem_26 : decode cX10_readItem 26 = .ok (.iload_n 1, 1) := by decide +kernel
theorem dX10_readItem_27 : decode cX10_readItem 27 = .ok (.ifCond .ne 22, 3) := by decide +kernel
theorem dX10_readItem_30 : decode cX10_readItem 30 = .ok (.iload_n 2, 1) := by decide +kernel
theorem dX10_readItem_31 : decode cX10_readItem 31 = .ok (.ifCond .ne 18, 3) := by decide +kernel
theorem dX10_readItem_34 : decode cX10_readItem 34 = .ok (.aload_n 0, 1) := by decide +kernel
theorem dX10_readItem_35 : decode cX10_readItem 35 = .ok (.bipush 100, 2) := by decide +kernel
theorem dX10_readItem_37 : decode cX10_readItem 37 = .ok (.bipush 105, 2) := by decide +kernel
theorem dX10_readItem_39 : decode cX10_readItem 39 = .ok (.bipush 101, 2) := by decide +kernel
theorem dX10_readItem_41 : decode cX10_readItem 41 = .ok (.iconst 0, 1) := by decide +kernel
theorem dX10_readItem_42 : decode cX10_readItem 42 = .ok (.iconst 0, 1) := by decide +kernel
theorem dX10_readItem_43 : decode cX10_readItem 43 = .ok (.invokevirtual 182, 3) := by decide +kernel
theorem dX10_readItem_46 : decode cX10_readItem 46 = .ok (.ifCond .eq 104, 3) := by decide +kernel
theorem dX10_readItem_49 : decode cX10_readItem 49 = .ok (.aload_n 0, 1) := by decide +kernel
theorem dX10_readItem_50 : decode cX10_readItem 50 = .ok (.getfield 186, 3) := by decide +kernel
theorem dX10_readItem_53 : decode cX10_readItem 53 = .ok (.ifCond .eq 5, 3) := by decide +kernel
theorem dX10_readItem_56 : decode cX10_readItem 56 = .ok (.iconst 0, 1) := by decide +kernel
theorem dX10_readItem_57 : decode cX10_readItem 57 = .ok (.ireturn, 1) := by decide +kernel
theorem dX10_readItem_58 : decode cX10_readItem 58 = .ok (.aload_n 0, 1) := by decide +kernel
theorem dX10_readItem_59 : decode cX10_readItem 59 = .ok (.invokevirtual 176, 3) := by decide +kernel
theorem dX10_readItem_62 : decode cX10_readItem 62 = .ok (.aload_n 0, 1) := by decide +kernel
theorem dX10_readItem_63 : decode cX10_readItem 63 = .ok (.invokevirtual 190, 3) := by decide +kernel
theorem dX10_readItem_66 : decode cX10_readItem 66 = .ok (.ifCond .ne 5, 3) := by decide +kernel
theorem dX10_readItem_69 : decode cX10_readItem 69 = .ok (.iconst 0, 1) := by decide +kernel
theorem dX10_readItem_70 : decode cX10_readItem 70 = .ok (.ireturn, 1) := by decide +kernel
theorem dX10_readItem_71 : decode cX10_readItem 71 = .ok (.iload_n 2, 1) := by decide +kernel
theorem dX10_readItem_72 : decode cX10_readItem 72 = .ok (.ifCond .eq 8, 3) := by decide +kernel
theorem dX10_readItem_75 : decode cX10_readItem 75 = .ok (.bipush 6, 2) := by decide +kernel
theorem dX10_readItem_77 : decode cX10_readItem 77 = .ok (.goto 5, 3) := by decide +kernel
theorem dX10_readItem_80 : decode cX10_readItem 80 = .ok (.bipush 7, 2) := by decide +kernel
theorem dX10_readItem_82 : decode cX10_readItem 82 = .ok (.istore_n 3, 1) := by decide +kernel
theorem dX10_readItem_83 : decode cX10_readItem 83 = .ok (.iload_n 1, 1) := by decide +kernel
theorem dX10_readItem_84 : decode cX10_readItem 84 = .ok (.ifCond .eq 33, 3) := by decide +kernel
theorem dX10_readItem_87 : decode cX10_readItem 87 = .ok (.aload_n 0, 1) := by decide +kernel
theorem dX10_readItem_88 : decode cX10_readItem 88 = .ok (.getfield 161, 3) := by decide +kernel
theorem dX10_readItem_91 : decode cX10_readItem 91 = .ok (.iconst 2, 1) := by decide +kernel
theorem dX10_readItem_92 : decode cX10_readItem 92 = .ok (.if_icmp .ne 14, 3) := by decide +kernel
theorem dX10_readItem_95 : decode cX10_readItem 95 = .ok (.aload_n 0, 1) := by decide +kernel
theorem dX10_readItem_96 : decode cX10_readItem 96 = .ok (.aload_n 0, 1) := by decide +kernel
theorem dX10_readItem_97 : decode cX10_readItem 97 = .ok (.getfield 164, 3) := by decide +kernel
theorem dX10_readItem_100 : decode cX10_readItem 100 = .ok (.invokevirtual 194, 3) := by decide +kernel
theorem dX10_readItem_103 : decode cX10_readItem 103 = .ok (.ifCond .ne 5, 3) := by decide +kernel
theorem dX10_readItem_106 : decode cX10_readItem 106 = .ok (.iconst 0, 1) := by decide +kernel
theorem dX10_readItem_107 : decode cX10_readItem 107 = .ok (.ireturn, 1) := by decide +kernel
theorem dX10_readItem_108 : decode cX10_readItem 108 = .ok (.aload_n 0, 1) := by decide +kernel
theorem dX10_readItem_109 : decode cX10_readItem 109 = .ok (.getfield 164, 3) := by decide +kernel
theorem dX10_readItem_112 : decode cX10_readItem 112 = .ok (.istore_n 3, 1) := by decide +kernel
theorem dX10_readItem_113 : decode cX10_readItem 113 = .ok (.aload_n 0, 1) := by decide +kernel
theorem dX10_readItem_114 : decode cX10_readItem 114 = .ok (.invokevirtual 176, 3) := by decide +kernel
theorem dX10_readItem_117 : decode cX10_readItem 117 = .ok (.aload_n 0, 1) := by decide +kernel
theorem dX10_readItem_118 : decode cX10_readItem 118 = .ok (.invokevirtual 197, 3) := by decide +kernel
theorem dX10_readItem_121 : decode cX10_readItem 121 = .ok (.ifCond .ne 5, 3) := by decide +kernel
theorem dX10_readItem_124 : decode cX10_readItem 124 = .ok (.iconst 0, 1) := by decide +kernel
theorem dX10_readItem_125 : decode cX10_readItem 125 = .ok (.ireturn, 1) := by decide +kernel
theorem dX10_readItem_126 : decode cX10_readItem 126 = .ok (.aload_n 0, 1) := by decide +kernel
theorem dX10_readItem_127 : decode cX10_readItem 127 = .ok (.iload_n 1, 1) := by decide +kernel
theorem dX10_readItem_128 : decode cX10_readItem 128 = .ok (.ifCond .ne 7, 3) := by decide +kernel
theorem dX10_readItem_131 : decode cX10_readItem 131 = .ok (.iconst 1, 1) := by decide +kernel
theorem dX10_readItem_132 : decode cX10_readItem 132 = .ok (.goto 4, 3) := by decide +kernel
theorem dX10_readItem_135 : decode cX10_readItem 135 = .ok (.iconst 0, 1) := by decide +kernel
theorem dX10_readItem_136 : decode cX10_readItem 136 = .ok (.putfield 186, 3) := by decide +kernel
theorem dX10_readItem_139 : decode cX10_readItem 139 = .ok (.aload_n 0, 1) := by decide +kernel
theorem dX10_readItem_140 : decode cX10_readItem 140 = .ok (.aload_n 0, 1) := by decide +kernel
theorem dX10_readItem_141 : decode cX10_readItem 141 = .ok (.getfield 179, 3) := by decide +kernel
theorem dX10_readItem_144 : decode cX10_readItem 144 = .ok (.iload_n 3, 1) := by decide +kernel
theorem dX10_readItem_145 : decode cX10_readItem 145 = .ok (.invokevirtual 200, 3) := by decide +kernel
theorem dX10_readItem_148 : decode cX10_readItem 148 = .ok (.iconst 1, 1) := by decide +kernel
theorem dX10_readItem_149 : decode cX10_readItem 149 = .ok (.ireturn, 1) := by decide +kernel
theorem dX10_readItem_150 : decode cX10_readItem 150 = .ok (.aload_n 0, 1) := by decide +kernel
theorem dX10_readItem_151 : decode cX10_readItem 151 = .ok (.bipush 119, 2) := by decide +kernel
theorem dX10_readItem_153 : decode cX10_readItem 153 = .ok (.bipush 111, 2) := by decide +kernel
theorem dX10_readItem_155 : decode cX10_readItem 155 = .ok (.bipush 114, 2) := by decide +kernel
theorem dX10_readItem_157 : decode cX10_readItem 157 = .ok (.bipush 100, 2) := by decide +kernel
theorem dX10_readItem_159 : decode cX10_readItem 159 = .ok (.iconst 0, 1) := by decide +kernel
theorem dX10_readItem_160 : decode cX10_readItem 160 = .ok (.invokevirtual 182, 3) := by decide +kernel
theorem dX10_readItem_163 : decode cX10_readItem 163 = .ok (.ifCond .eq 63, 3) := by decide +kernel
theorem dX10_readItem_166 : decode cX10_readItem 166 = .ok (.aload_n 0, 1) := by decide +kernel
theorem dX10_readItem_167 : decode cX10_readItem 167 = .ok (.getfield 33, 3) := by decide +kernel
theorem dX10_readItem_170 : decode cX10_readItem 170 = .ok (.aload_n 0, 1) := by decide +kernel
theorem dX10_readItem_171 : decode cX10_readItem 171 = .ok (.getfield 152, 3) := by decide +kernel
theorem dX10_readItem_174 : decode cX10_readItem 174 = .ok (.iaload, 1) := by decide +kernel
theorem dX10_readItem_175 : decode cX10_readItem 175 = .ok (.iconst (-1), 1) := by decide +kernel
theorem dX10_readItem_176 : decode cX10_readItem 176 = .ok (.if_icmp .ne 50, 3) := by decide +kernel
theorem dX10_readItem_179 : decode cX10_readItem 179 = .ok (.aload_n 0, 1) := by decide +kernel
theorem dX10_readItem_180 : decode cX10_readItem 180 = .ok (.invokevirtual 176, 3) := by decide +kernel
theorem dX10_readItem_183 : decode cX10_readItem 183 = .ok (.aload_n 0, 1) := by decide +kernel
theorem dX10_readItem_184 : decode cX10_readItem 184 = .ok (.getfield 161, 3) := by decide +kernel
theorem dX10_readItem_187 : decode cX10_readItem 187 = .ok (.iconst 2, 1) := by decide +kernel
theorem dX10_readItem_188 : decode cX10_readItem 188 = .ok (.if_icmp .ne 14, 3) := by decide +kernel
theorem dX10_readItem_191 : decode cX10_readItem 191 = .ok (.aload_n 0, 1) := by decide +kernel
theorem dX10_readItem_192 : decode cX10_readItem 192 = .ok (.aload_n 0, 1) := by decide +kernel
theorem dX10_readItem_193 : decode cX10_readItem 193 = .ok (.getfield 164, 3) := by decide +kernel
theorem dX10_readItem_196 : decode cX10_readItem 196 = .ok (.invokevirtual 194, 3) := by decide +kernel
theorem dX10_readItem_199 : decode cX10_readItem 199 = .ok (.ifCond .ne 5, 3) := by decide +kernel
theorem dX10_readItem_202 : decode cX10_readItem 202 = .ok (.iconst 0, 1) := by decide +kernel
theorem dX10_readItem_203 : decode cX10_readItem 203 = .ok (.ireturn, 1) := by decide +kernel
theorem dX10_readItem_204 : decode cX10_readItem 204 = .ok (.aload_n 0, 1) := by decide +kernel
theorem dX10_readItem_205 : decode cX10_readItem 205 = .ok (.getfield 33, 3) := by decide +kernel
theorem dX10_readItem_208 : decode cX10_readItem 208 = .ok (.aload_n 0, 1) := by decide +kernel
theorem dX10_readItem_209 : decode cX10_readItem 209 = .ok (.getfield 152, 3) := by decide +kernel
theorem dX10_readItem_212 : decode cX10_readItem 212 = .ok (.aload_n 0, 1) := by decide +kernel
theorem dX10_readItem_213 : decode cX10_readItem 213 = .ok (.getfield 164, 3) := by decide +kernel
theorem dX10_readItem_216 : decode cX10_readItem 216 = .ok (.iastore, 1) := by decide +kernel
theorem dX10_readItem_217 : decode cX10_readItem 217 = .ok (.aload_n 0, 1) := by decide +kernel
theorem dX10_readItem_218 : decode cX10_readItem 218 = .ok (.invokevirtual 176, 3) := by decide +kernel
theorem dX10_readItem_221 : decode cX10_readItem 221 = .ok (.aload_n 0, 1) := by decide +kernel
theorem dX10_readItem_222 : decode cX10_readItem 222 = .ok (.invokevirtual 197, 3) := by decide +kernel
theorem dX10_readItem_225 : decode cX10_readItem 225 = .ok (.ireturn, 1) := by decide +kernel
theorem dX10_readItem_226 : decode cX10_readItem 226 = .ok (.aload_n 0, 1) := by decide +kernel
theorem dX10_readItem_227 : decode cX10_readItem 227 = .ok (.bipush 99, 2) := by decide +kernel
theorem dX10_readItem_229 : decode cX10_readItem 229 = .ok (.bipush 114, 2) := by decide +kernel
theorem dX10_readItem_231 : decode cX10_readItem 231 = .ok (.bipush 111, 2) := by decide +kernel
theorem dX10_readItem_233 : decode cX10_readItem 233 = .ok (.bipush 115, 2) := by decide +kernel
theorem dX10_readItem_235 : decode cX10_readItem 235 = .ok (.bipush 115, 2) := by decide +kernel
theorem dX10_readItem_237 : decode cX10_readItem 237 = .ok (.invokevirtual 182, 3) := by decide +kernel
theorem dX10_readItem_240 : decode cX10_readItem 240 = .ok (.ifCond .eq 34, 3) := by decide +kernel
theorem dX10_readItem_243 : decode cX10_readItem 243 = .ok (.aload_n 0, 1) := by decide +kernel
theorem dX10_readItem_244 : decode cX10_readItem 244 = .ok (.getfield 36, 3) := by decide +kernel
theorem dX10_readItem_247 : decode cX10_readItem 247 = .ok (.aload_n 0, 1) := by decide +kernel
theorem dX10_readItem_248 : decode cX10_readItem 248 = .ok (.getfield 152, 3) := by decide +kernel
theorem dX10_readItem_251 : decode cX10_readItem 251 = .ok (.baload, 1) := by decide +kernel
theorem dX10_readItem_252 : decode cX10_readItem 252 = .ok (.ifCond .ne 22, 3) := by decide +kernel
theorem dX10_readItem_255 : decode cX10_readItem 255 = .ok (.aload_n 0, 1) := by decide +kernel
theorem dX10_readItem_256 : decode cX10_readItem 256 = .ok (.getfield 36, 3) := by decide +kernel
theorem dX10_readItem_259 : decode cX10_readItem 259 = .ok (.aload_n 0, 1) := by decide +kernel
theorem dX10_readItem_260 : decode cX10_readItem 260 = .ok (.getfield 152, 3) := by decide +kernel
theorem dX10_readItem_263 : decode cX10_readItem 263 = .ok (.iconst 1, 1) := by decide +kernel
theorem dX10_readItem_264 : decode cX10_readItem 264 = .ok (.bastore, 1) := by decide +kernel
theorem dX10_readItem_265 : decode cX10_readItem 265 = .ok (.aload_n 0, 1) := by decide +kernel
theorem dX10_readItem_266 : decode cX10_readItem 266 = .ok (.invokevirtual 176, 3) := by decide +kernel
theorem dX10_readItem_269 : decode cX10_readItem 269 = .ok (.aload_n 0, 1) := by decide +kernel
theorem dX10_readItem_270 : decode cX10_readItem 270 = .ok (.invokevirtual 197, 3) := by decide +kernel
theorem dX10_readItem_273 : decode cX10_readItem 273 = .ok (.ireturn, 1) := by decide +kernel
theorem dX10_readItem_274 : decode cX10_readItem 274 = .ok (.iconst 0, 1) := by decide +kernel
theorem dX10_readItem_275 : decode cX10_readItem 275 = .ok (.ireturn, 1) := by decide +kernel
theorem dX10_readsStory_0 : decode cX10_readsStory 0 = .ok (.aload_n 0, 1) := by decide +kernel
theorem dX10_readsStory_1 : decode cX10_readsStory 1 = .ok (.iload_n 1, 1) := by decide +kernel
theorem dX10_readsStory_2 : decode cX10_readsStory 2 = .ok (.putfield 152, 3) := by decide +kernel
theorem dX10_readsStory_5 : decode cX10_readsStory 5 = .ok (.aload_n 0, 1) := by decide +kernel
theorem dX10_readsStory_6 : decode cX10_readsStory 6 = .ok (.iconst 0, 1) := by decide +kernel
theorem dX10_readsStory_7 : decode cX10_readsStory 7 = .ok (.putfield 179, 3) := by decide +kernel
theorem dX10_readsStory_10 : decode cX10_readsStory 10 = .ok (.aload_n 0, 1) := by decide +kernel
theorem dX10_readsStory_11 : decode cX10_readsStory 11 = .ok (.iconst 0, 1) := by decide +kernel
theorem dX10_readsStory_12 : decode cX10_readsStory 12 = .ok (.putfield 186, 3) := by decide +kernel
theorem dX10_readsStory_15 : decode cX10_readsStory 15 = .ok (.aload_n 0, 1) := by decide +kernel
theorem dX10_readsStory_16 : decode cX10_readsStory 16 = .ok (.getfield 33, 3) := by decide +kernel
theorem dX10_readsStory_19 : decode cX10_readsStory 19 = .ok (.aload_n 0, 1) := by decide +kernel
theorem dX10_readsStory_20 : decode cX10_readsStory 20 = .ok (.getfield 152, 3) := by decide +kernel
theorem dX10_readsStory_23 : decode cX10_readsStory 23 = .ok (.iconst (-1), 1) := by decide +kernel
theorem dX10_readsStory_24 : decode cX10_readsStory 24 = .ok (.iastore, 1) := by decide +kernel
theorem dX10_readsStory_25 : decode cX10_readsStory 25 = .ok (.aload_n 0, 1) := by decide +kernel
theorem dX10_readsStory_26 : decode cX10_readsStory 26 = .ok (.getfield 36, 3) := by decide +kernel
theorem dX10_readsStory_29 : decode cX10_readsStory 29 = .ok (.aload_n 0, 1) := by decide +kernel
theorem dX10_readsStory_30 : decode cX10_readsStory 30 = .ok (.getfield 152, 3) := by decide +kernel
theorem dX10_readsStory_33 : decode cX10_readsStory 33 = .ok (.iconst 0, 1) := by decide +kernel
theorem dX10_readsStory_34 : decode cX10_readsStory 34 = .ok (.bastore, 1) := by decide +kernel
theorem dX10_readsStory_35 : decode cX10_readsStory 35 = .ok (.aload_n 0, 1) := by decide +kernel
theorem dX10_readsStory_36 : decode cX10_readsStory 36 = .ok (.iconst 0, 1) := by decide +kernel
theorem dX10_readsStory_37 : decode cX10_readsStory 37 = .ok (.iconst 0, 1) := by decide +kernel
theorem dX10_readsStory_38 : decode cX10_readsStory 38 = .ok (.invokevirtual 200, 3) := by decide +kernel
theorem dX10_readsStory_41 : decode cX10_readsStory 41 = .ok (.aload_n 0, 1) := by decide +kernel
theorem dX10_readsStory_42 : decode cX10_readsStory 42 = .ok (.iconst 0, 1) := by decide +kernel
theorem dX10_readsStory_43 : decode cX10_readsStory 43 = .ok (.invokevirtual 173, 3) := by decide +kernel
theorem dX10_readsStory_46 : decode cX10_readsStory 46 = .ok (.iconst 1, 1) := by decide +kernel
theorem dX10_readsStory_47 : decode cX10_readsStory 47 = .ok (.istore_n 2, 1) := by decide +kernel
theorem dX10_readsStory_48 : decode cX10_readsStory 48 = .ok (.iload_n 2, 1) := by decide +kernel
theorem dX10_readsStory_49 : decode cX10_readsStory 49 = .ok (.ifCond .eq 18, 3) := by decide +kernel
theorem dX10_readsStory_52 : decode cX10_readsStory 52 = .ok (.aload_n 0, 1) := by decide +kernel
theorem dX10_readsStory_53 : decode cX10_readsStory 53 = .ok (.getfield 161, 3) := by decide +kernel
theorem dX10_readsStory_56 : decode cX10_readsStory 56 = .ok (.ifCond .eq 11, 3) := by decide +kernel
theorem dX10_readsStory_59 : decode cX10_readsStory 59 = .ok (.aload_n 0, 1) := by decide +kernel
theorem dX10_readsStory_60 : decode cX10_readsStory 60 = .ok (.invokevirtual 203, 3) := by decide +kernel
theorem dX10_readsStory_63 : decode cX10_readsStory 63 = .ok (.istore_n 2, 1) := by decide +kernel
theorem dX10_readsStory_64 : decode cX10_readsStory 64 = .ok (.goto (-16), 3) := by decide +kernel
theorem dX10_readsStory_67 : decode cX10_readsStory 67 = .ok (.iload_n 2, 1) := by decide +kernel
theorem dX10_readsStory_68 : decode cX10_readsStory 68 = .ok (.ireturn, 1) := by decide +kernel
theorem dX10_fault_0 : decode cX10_fault 0 = .ok (.iload_n 1, 1) := by decide +kernel
theorem dX10_fault_1 : decode cX10_fault 1 = .ok (.invokestatic 129, 3) := by decide +kernel
theorem dX10_fault_4 : decode cX10_fault 4 = .ok (.ifCond .ne 10, 3) := by decide +kernel
theorem dX10_fault_7 : decode cX10_fault 7 = .ok (.aload_n 0, 1) := by decide +kernel
theorem dX10_fault_8 : decode cX10_fault 8 = .ok (.bipush (-2), 2) := by decide +kernel
theorem dX10_fault_10 : decode cX10_fault 10 = .ok (.invokevirtual 118, 3) := by decide +kernel
theorem dX10_fault_13 : decode cX10_fault 13 = .ok (.ireturn, 1) := by decide +kernel
theorem dX10_fault_14 : decode cX10_fault 14 = .ok (.aload_n 0, 1) := by decide +kernel
theorem dX10_fault_15 : decode cX10_fault 15 = .ok (.iload_n 1, 1) := by decide +kernel
theorem dX10_fault_16 : decode cX10_fault 16 = .ok (.invokevirtual 206, 3) := by decide +kernel
theorem dX10_fault_19 : decode cX10_fault 19 = .ok (.ifCond .eq 7, 3) := by decide +kernel
theorem dX10_fault_22 : decode cX10_fault 22 = .ok (.iconst (-1), 1) := by decide +kernel
theorem dX10_fault_23 : decode cX10_fault 23 = .ok (.goto 7, 3) := by decide +kernel
theorem dX10_fault_26 : decode cX10_fault 26 = .ok (.aload_n 0, 1) := by decide +kernel
theorem dX10_fault_27 : decode cX10_fault 27 = .ok (.getfield 149, 3) := by decide +kernel
theorem dX10_fault_30 : decode cX10_fault 30 = .ok (.ireturn, 1) := by decide +kernel
theorem dX10_readAll_0 : decode cX10_readAll 0 = .ok (.iconst 0, 1) := by decide +kernel
theorem dX10_readAll_1 : decode cX10_readAll 1 = .ok (.istore_n 1, 1) := by decide +kernel
theorem dX10_readAll_2 : decode cX10_readAll 2 = .ok (.iload_n 1, 1) := by decide +kernel
theorem dX10_readAll_3 : decode cX10_readAll 3 = .ok (.iconst 4, 1) := by decide +kernel
theorem dX10_readAll_4 : decode cX10_readAll 4 = .ok (.if_icmp .ge 20, 3) := by decide +kernel
theorem dX10_readAll_7 : decode cX10_readAll 7 = .ok (.aload_n 0, 1) := by decide +kernel
theorem dX10_readAll_8 : decode cX10_readAll 8 = .ok (.getfield 39, 3) := by decide +kernel
theorem dX10_readAll_11 : decode cX10_readAll 11 = .ok (.iload_n 1, 1) := by decide +kernel
theorem dX10_readAll_12 : decode cX10_readAll 12 = .ok (.aload_n 0, 1) := by decide +kernel
theorem dX10_readAll_13 : decode cX10_readAll 13 = .ok (.iload_n 1, 1) := by decide +kernel
theorem dX10_readAll_14 : decode cX10_readAll 14 = .ok (.invokevirtual 206, 3) := by decide +kernel
theorem dX10_readAll_17 : decode cX10_readAll 17 = .ok (.bastore, 1) := by decide +kernel
theorem dX10_readAll_18 : decode cX10_readAll 18 = .ok (.iinc 1 1, 3) := by decide +kernel
theorem dX10_readAll_21 : decode cX10_readAll 21 = .ok (.goto (-19), 3) := by decide +kernel
theorem dX10_readAll_24 : decode cX10_readAll 24 = .ok (.return_, 1) := by decide +kernel
theorem dX10_sign_0 : decode cX10_sign 0 = .ok (.aload_n 0, 1) := by decide +kernel
theorem dX10_sign_1 : decode cX10_sign 1 = .ok (.iload_n 1, 1) := by decide +kernel
theorem dX10_sign_2 : decode cX10_sign 2 = .ok (.invokevirtual 194, 3) := by decide +kernel
theorem dX10_sign_5 : decode cX10_sign 5 = .ok (.ifCond .eq 35, 3) := by decide +kernel
theorem dX10_sign_8 : decode cX10_sign 8 = .ok (.iload_n 2, 1) := by decide +kernel
theorem dX10_sign_9 : decode cX10_sign 9 = .ok (.invokestatic 129, 3) := by decide +kernel
theorem dX10_sign_12 : decode cX10_sign 12 = .ok (.ifCond .eq 28, 3) := by decide +kernel
theorem dX10_sign_15 : decode cX10_sign 15 = .ok (.iload_n 3, 1) := by decide +kernel
theorem dX10_sign_16 : decode cX10_sign 16 = .ok (.i2l, 1) := by decide +kernel
theorem dX10_sign_17 : decode cX10_sign 17 = .ok (.lconst 0, 1) := by decide +kernel
theorem dX10_sign_18 : decode cX10_sign 18 = .ok (.ldc2_w 125, 3) := by decide +kernel
theorem dX10_sign_21 : decode cX10_sign 21 = .ok (.invokestatic 105, 3) := by decide +kernel
theorem dX10_sign_24 : decode cX10_sign 24 = .ok (.ifCond .eq 16, 3) := by decide +kernel
theorem dX10_sign_27 : decode cX10_sign 27 = .ok (.iload 4, 2) := by decide +kernel
theorem dX10_sign_29 : decode cX10_sign 29 = .ok (.i2l, 1) := by decide +kernel
theorem dX10_sign_30 : decode cX10_sign 30 = .ok (.lconst 1, 1) := by decide +kernel
theorem dX10_sign_31 : decode cX10_sign 31 = .ok (.ldc2_w 209, 3) := by decide +kernel
theorem dX10_sign_34 : decode cX10_sign 34 = .ok (.invokestatic 105, 3) := by decide +kernel
theorem dX10_sign_37 : decode cX10_sign 37 = .ok (.ifCond .ne 10, 3) := by decide +kernel
theorem dX10_sign_40 : decode cX10_sign 40 = .ok (.aload_n 0, 1) := by decide +kernel
theorem dX10_sign_41 : decode cX10_sign 41 = .ok (.bipush (-2), 2) := by decide +kernel
theorem dX10_sign_43 : decode cX10_sign 43 = .ok (.invokevirtual 118, 3) := by decide +kernel
theorem dX10_sign_46 : decode cX10_sign 46 = .ok (.ireturn, 1) := by decide +kernel
theorem dX10_sign_47 : decode cX10_sign 47 = .ok (.aload_n 0, 1) := by decide +kernel
theorem dX10_sign_48 : decode cX10_sign 48 = .ok (.iload_n 1, 1) := by decide +kernel
theorem dX10_sign_49 : decode cX10_sign 49 = .ok (.iload_n 2, 1) := by decide +kernel
theorem dX10_sign_50 : decode cX10_sign 50 = .ok (.invokevirtual 211, 3) := by decide +kernel
theorem dX10_sign_53 : decode cX10_sign 53 = .ok (.ifCond .eq 10, 3) := by decide +kernel
theorem dX10_sign_56 : decode cX10_sign 56 = .ok (.aload_n 0, 1) := by decide +kernel
theorem dX10_sign_57 : decode cX10_sign 57 = .ok (.bipush (-2), 2) := by decide +kernel
theorem dX10_sign_59 : decode cX10_sign 59 = .ok (.invokevirtual 118, 3) := by decide +kernel
theorem dX10_sign_62 : decode cX10_sign 62 = .ok (.ireturn, 1) := by decide +kernel
theorem dX10_sign_63 : decode cX10_sign 63 = .ok (.aload_n 0, 1) := by decide +kernel
theorem dX10_sign_64 : decode cX10_sign 64 = .ok (.invokevirtual 215, 3) := by decide +kernel
theorem dX10_sign_67 : decode cX10_sign 67 = .ok (.istore 5, 2) := by decide +kernel
theorem dX10_sign_69 : decode cX10_sign 69 = .ok (.iload 5, 2) := by decide +kernel
theorem dX10_sign_71 : decode cX10_sign 71 = .ok (.bipush 6, 2) := by decide +kernel
theorem dX10_sign_73 : decode cX10_sign 73 = .ok (.if_icmp .ne 8, 3) := by decide +kernel
theorem dX10_sign_76 : decode cX10_sign 76 = .ok (.aload_n 0, 1) := by decide +kernel
theorem dX10_sign_77 : decode cX10_sign 77 = .ok (.invokevirtual 122, 3) := by decide +kernel
theorem dX10_sign_80 : decode cX10_sign 80 = .ok (.ireturn, 1) := by decide +kernel
theorem dX10_sign_81 : decode cX10_sign 81 = .ok (.aload_n 0, 1) := by decide +kernel
theorem dX10_sign_82 : decode cX10_sign 82 = .ok (.getfield 7, 3) := by decide +kernel
theorem dX10_sign_85 : decode cX10_sign 85 = .ok (.sipush 518, 3) := by decide +kernel
theorem dX10_sign_88 : decode cX10_sign 88 = .ok (.iconst 4, 1) := by decide +kernel
theorem dX10_sign_89 : decode cX10_sign 89 = .ok (.iload 5, 2) := by decide +kernel
theorem dX10_sign_91 : decode cX10_sign 91 = .ok (.imul, 1) := by decide +kernel
theorem dX10_sign_92 : decode cX10_sign 92 = .ok (.iadd, 1) := by decide +kernel
theorem dX10_sign_93 : decode cX10_sign 93 = .ok (.iload_n 1, 1) := by decide +kernel
theorem dX10_sign_94 : decode cX10_sign 94 = .ok (.iastore, 1) := by decide +kernel
theorem dX10_sign_95 : decode cX10_sign 95 = .ok (.aload_n 0, 1) := by decide +kernel
theorem dX10_sign_96 : decode cX10_sign 96 = .ok (.getfield 7, 3) := by decide +kernel
theorem dX10_sign_99 : decode cX10_sign 99 = .ok (.sipush 518, 3) := by decide +kernel
theorem dX10_sign_102 : decode cX10_sign 102 = .ok (.iconst 4, 1) := by decide +kernel
theorem dX10_sign_103 : decode cX10_sign 103 = .ok (.iload 5, 2) := by decide +kernel
theorem dX10_sign_105 : decode cX10_sign 105 = .ok (.imul, 1) := by decide +kernel
theorem dX10_sign_106 : decode cX10_sign 106 = .ok (.iadd, 1) := by decide +kernel
theorem dX10_sign_107 : decode cX10_sign 107 = .ok (.iconst 1, 1) := by decide +kernel
theorem dX10_sign_108 : decode cX10_sign 108 = .ok (.iadd, 1) := by decide +kernel
theorem dX10_sign_109 : decode cX10_sign 109 = .ok (.iload_n 2, 1) := by decide +kernel
theorem dX10_sign_110 : decode cX10_sign 110 = .ok (.iastore, 1) := by decide +kernel
theorem dX10_sign_111 : decode cX10_sign 111 = .ok (.aload_n 0, 1) := by decide +kernel
theorem dX10_sign_112 : decode cX10_sign 112 = .ok (.getfield 7, 3) := by decide +kernel
theorem dX10_sign_115 : decode cX10_sign 115 = .ok (.sipush 518, 3) := by decide +kernel
theorem dX10_sign_118 : decode cX10_sign 118 = .ok (.iconst 4, 1) := by decide +kernel
theorem dX10_sign_119 : decode cX10_sign 119 = .ok (.iload 5, 2) := by decide +kernel
theorem dX10_sign_121 : decode cX10_sign 121 = .ok (.imul, 1) := by decide +kernel
theorem dX10_sign_122 : decode cX10_sign 122 = .ok (.iadd, 1) := by decide +kernel
theorem dX10_sign_123 : decode cX10_sign 123 = .ok (.iconst 2, 1) := by decide +kernel
theorem dX10_sign_124 : decode cX10_sign 124 = .ok (.iadd, 1) := by decide +kernel
theorem dX10_sign_125 : decode cX10_sign 125 = .ok (.iload_n 3, 1) := by decide +kernel
theorem dX10_sign_126 : decode cX10_sign 126 = .ok (.iastore, 1) := by decide +kernel
theorem dX10_sign_127 : decode cX10_sign 127 = .ok (.aload_n 0, 1) := by decide +kernel
theorem dX10_sign_128 : decode cX10_sign 128 = .ok (.getfield 7, 3) := by decide +kernel
theorem dX10_sign_131 : decode cX10_sign 131 = .ok (.sipush 518, 3) := by decide +kernel
theorem dX10_sign_134 : decode cX10_sign 134 = .ok (.iconst 4, 1) := by decide +kernel
theorem dX10_sign_135 : decode cX10_sign 135 = .ok (.iload 5, 2) := by decide +kernel
theorem dX10_sign_137 : decode cX10_sign 137 = .ok (.imul, 1) := by decide +kernel
theorem dX10_sign_138 : decode cX10_sign 138 = .ok (.iadd, 1) := by decide +kernel
theorem dX10_sign_139 : decode cX10_sign 139 = .ok (.iconst 3, 1) := by decide +kernel
theorem dX10_sign_140 : decode cX10_sign 140 = .ok (.iadd, 1) := by decide +kernel
theorem dX10_sign_141 : decode cX10_sign 141 = .ok (.iload 4, 2) := by decide +kernel
theorem dX10_sign_143 : decode cX10_sign 143 = .ok (.iastore, 1) := by decide +kernel
theorem dX10_sign_144 : decode cX10_sign 144 = .ok (.aload_n 0, 1) := by decide +kernel
theorem dX10_sign_145 : decode cX10_sign 145 = .ok (.getfield 7, 3) := by decide +kernel
theorem dX10_sign_148 : decode cX10_sign 148 = .ok (.sipush 673, 3) := by decide +kernel
theorem dX10_sign_151 : decode cX10_sign 151 = .ok (.dup2, 1) := by decide +kernel
theorem dX10_sign_152 : decode cX10_sign 152 = .ok (.iaload, 1) := by decide +kernel
theorem dX10_sign_153 : decode cX10_sign 153 = .ok (.iconst 1, 1) := by decide +kernel
theorem dX10_sign_154 : decode cX10_sign 154 = .ok (.iadd, 1) := by decide +kernel
theorem dX10_sign_155 : decode cX10_sign 155 = .ok (.iastore, 1) := by decide +kernel
theorem dX10_sign_156 : decode cX10_sign 156 = .ok (.iload 5, 2) := by decide +kernel
theorem dX10_sign_158 : decode cX10_sign 158 = .ok (.ireturn, 1) := by decide +kernel
theorem dX10_isSigned_0 : decode cX10_isSigned 0 = .ok (.iconst 0, 1) := by decide +kernel
theorem dX10_isSigned_1 : decode cX10_isSigned 1 = .ok (.istore_n 3, 1) := by decide +kernel
theorem dX10_isSigned_2 : decode cX10_isSigned 2 = .ok (.iconst 0, 1) := by decide +kernel
theorem dX10_isSigned_3 : decode cX10_isSigned 3 = .ok (.istore 4, 2) := by decide +kernel
theorem dX10_isSigned_5 : decode cX10_isSigned 5 = .ok (.iload 4, 2) := by decide +kernel
theorem dX10_isSigned_7 : decode cX10_isSigned 7 = .ok (.aload_n 0, 1) := by decide +kernel
theorem dX10_isSigned_8 : decode cX10_isSigned 8 = .ok (.invokevirtual 215, 3) := by decide +kernel
theorem dX10_isSigned_11 : decode cX10_isSigned 11 = .ok (.if_icmp .ge 55, 3) := by decide +kernel
theorem dX10_isSigned_14 : decode cX10_isSigned 14 = .ok (.iload_n 3, 1) := by decide +kernel
theorem dX10_isSigned_15 : decode cX10_isSigned 15 = .ok (.ifCond .ne 39, 3) := by decide +kernel
theorem dX10_isSigned_18 : decode cX10_isSigned 18 = .ok (.aload_n 0, 1) := by decide +kernel
theorem dX10_isSigned_19 : decode cX10_isSigned 19 = .ok (.getfield 7, 3) := by decide +kernel
theorem dX10_isSigned_22 : decode cX10_isSigned 22 = .ok (.sipush 518, 3) := by decide +kernel
theorem dX10_isSigned_25 : decode cX10_isSigned 25 = .ok (.iconst 4, 1) := by decide +kernel
theorem dX10_isSigned_26 : decode cX10_isSigned 26 = .ok (.iload 4, 2) := by decide +kernel
theorem dX10_isSigned_28 : decode cX10_isSigned 28 = .ok (.imul, 1) := by decide +kernel
theorem dX10_isSigned_29 : decode cX10_isSigned 29 = .ok (.iadd, 1) := by decide +kernel
theorem dX10_isSigned_30 : decode cX10_isSigned 30 = .ok (.iaload, 1) := by decide +kernel
theorem dX10_isSigned_31 : decode cX10_isSigned 31 = .ok (.iload_n 1, 1) := by decide +kernel
theorem dX10_isSigned_32 : decode cX10_isSigned 32 = .ok (.if_icmp .ne 26, 3) := by decide +kernel
theorem dX10_isSigned_35 : decode cX10_isSigned 35 = .ok (.aload_n 0, 1) := by decide +kernel
theorem dX10_isSigned_36 : decode cX10_isSigned 36 = .ok (.getfield 7, 3) := by decide +kernel
theorem dX10_isSigned_39 : decode cX10_isSigned 39 = .ok (.sipush 518, 3) := by decide +kernel
theorem dX10_isSigned_42 : decode cX10_isSigned 42 = .ok (.iconst 4, 1) := by decide +kernel
theorem dX10_isSigned_43 : decode cX10_isSigned 43 = .ok (.iload 4, 2) := by decide +kernel
theorem dX10_isSigned_45 : decode cX10_isSigned 45 = .ok (.imul, 1) := by decide +kernel
theorem dX10_isSigned_46 : decode cX10_isSigned 46 = .ok (.iadd, 1) := by decide +kernel
theorem dX10_isSigned_47 : decode cX10_isSigned 47 = .ok (.iconst 1, 1) := by decide +kernel
theorem dX10_isSigned_48 : decode cX10_isSigned 48 = .ok (.iadd, 1) := by decide +kernel
theorem dX10_isSigned_49 : decode cX10_isSigned 49 = .ok (.iaload, 1) := by decide +kernel
theorem dX10_isSigned_50 : decode cX10_isSigned 50 = .ok (.iload_n 2, 1) := by decide +kernel
theorem dX10_isSigned_51 : decode cX10_isSigned 51 = .ok (.if_icmp .ne 7, 3) := by decide +kernel
theorem dX10_isSigned_54 : decode cX10_isSigned 54 = .ok (.iconst 1, 1) := by decide +kernel
theorem dX10_isSigned_55 : decode cX10_isSigned 55 = .ok (.goto 4, 3) := by decide +kernel
theorem dX10_isSigned_58 : decode cX10_isSigned 58 = .ok (.iconst 0, 1) := by decide +kernel
theorem dX10_isSigned_59 : decode cX10_isSigned 59 = .ok (.istore_n 3, 1) := by decide +kernel
theorem dX10_isSigned_60 : decode cX10_isSigned 60 = .ok (.iinc 4 1, 3) := by decide +kernel
theorem dX10_isSigned_63 : decode cX10_isSigned 63 = .ok (.goto (-58), 3) := by decide +kernel
theorem dX10_isSigned_66 : decode cX10_isSigned 66 = .ok (.iload_n 3, 1) := by decide +kernel
theorem dX10_isSigned_67 : decode cX10_isSigned 67 = .ok (.ireturn, 1) := by decide +kernel
theorem dX10_post_0 : decode cX10_post 0 = .ok (.iload_n 1, 1) := by decide +kernel
theorem dX10_post_1 : decode cX10_post 1 = .ok (.iconst (-1), 1) := by decide +kernel
theorem dX10_post_2 : decode cX10_post 2 = .ok (.if_icmp .eq 18, 3) := by decide +kernel
theorem dX10_post_5 : decode cX10_post 5 = .ok (.aload_n 0, 1) := by decide +kernel
theorem dX10_post_6 : decode cX10_post 6 = .ok (.iload_n 1, 1) := by decide +kernel
theorem dX10_post_7 : decode cX10_post 7 = .ok (.invokevirtual 194, 3) := by decide +kernel
theorem dX10_post_10 : decode cX10_post 10 = .ok (.ifCond .ne 10, 3) := by decide +kernel
theorem dX10_post_13 : decode cX10_post 13 = .ok (.aload_n 0, 1) := by decide +kernel
theorem dX10_post_14 : decode cX10_post 14 = .ok (.bipush (-2), 2) := by decide +kernel
theorem dX10_post_16 : decode cX10_post 16 = .ok (.invokevirtual 118, 3) := by decide +kernel
theorem dX10_post_19 : decode cX10_post 19 = .ok (.ireturn, 1) := by decide +kernel
theorem dX10_post_20 : decode cX10_post 20 = .ok (.aload_n 0, 1) := by decide +kernel
theorem dX10_post_21 : decode cX10_post 21 = .ok (.getfield 7, 3) := by decide +kernel
theorem dX10_post_24 : decode cX10_post 24 = .ok (.sipush 542, 3) := by decide +kernel
theorem dX10_post_27 : decode cX10_post 27 = .ok (.iconst 1, 1) := by decide +kernel
theorem dX10_post_28 : decode cX10_post 28 = .ok (.iastore, 1) := by decide +kernel
theorem dX10_post_29 : decode cX10_post 29 = .ok (.aload_n 0, 1) := by decide +kernel
theorem dX10_post_30 : decode cX10_post 30 = .ok (.getfield 7, 3) := by decide +kernel
theorem dX10_post_33 : decode cX10_post 33 = .ok (.sipush 543, 3) := by decide +kernel
theorem dX10_post_36 : decode cX10_post 36 = .ok (.iload_n 1, 1) := by decide +kernel
theorem dX10_post_37 : decode cX10_post 37 = .ok (.iastore, 1) := by decide +kernel
theorem dX10_post_38 : decode cX10_post 38 = .ok (.aload_n 0, 1) := by decide +kernel
theorem dX10_post_39 : decode cX10_post 39 = .ok (.getfield 7, 3) := by decide +kernel
theorem dX10_post_42 : decode cX10_post 42 = .ok (.sipush 544, 3) := by decide +kernel
theorem dX10_post_45 : decode cX10_post 45 = .ok (.iload_n 2, 1) := by decide +kernel
theorem dX10_post_46 : decode cX10_post 46 = .ok (.ifCond .eq 7, 3) := by decide +kernel
theorem dX10_post_49 : decode cX10_post 49 = .ok (.iconst 1, 1) := by decide +kernel
theorem dX10_post_50 : decode cX10_post 50 = .ok (.goto 4, 3) := by decide +kernel
theorem dX10_post_53 : decode cX10_post 53 = .ok (.iconst 0, 1) := by decide +kernel
theorem dX10_post_54 : decode cX10_post 54 = .ok (.iastore, 1) := by decide +kernel
theorem dX10_post_55 : decode cX10_post 55 = .ok (.iconst 1, 1) := by decide +kernel
theorem dX10_post_56 : decode cX10_post 56 = .ok (.ireturn, 1) := by decide +kernel
theorem dX10_isWhere_0 : decode cX10_isWhere 0 = .ok (.aload_n 0, 1) := by decide +kernel
theorem dX10_isWhere_1 : decode cX10_isWhere 1 = .ok (.iload_n 1, 1) := by decide +kernel
theorem dX10_isWhere_2 : decode cX10_isWhere 2 = .ok (.invokevirtual 194, 3) := by decide +kernel
theorem dX10_isWhere_5 : decode cX10_isWhere 5 = .ok (.ifCond .ne 15, 3) := by decide +kernel
theorem dX10_isWhere_8 : decode cX10_isWhere 8 = .ok (.iload_n 1, 1) := by decide +kernel
theorem dX10_isWhere_9 : decode cX10_isWhere 9 = .ok (.bipush 6, 2) := by decide +kernel
theorem dX10_isWhere_11 : decode cX10_isWhere 11 = .ok (.if_icmp .eq 9, 3) := by decide +kernel
theorem dX10_isWhere_14 : decode cX10_isWhere 14 = .ok (.iload_n 1, 1) := by decide +kernel
theorem dX10_isWhere_15 : decode cX10_isWhere 15 = .ok (.bipush 7, 2) := by decide +kernel
theorem dX10_isWhere_17 : decode cX10_isWhere 17 = .ok (.if_icmp .ne 7, 3) := by decide +kernel
theorem dX10_isWhere_20 : decode cX10_isWhere 20 = .ok (.iconst 1, 1) := by decide +kernel
theorem dX10_isWhere_21 : decode cX10_isWhere 21 = .ok (.goto 4, 3) := by decide +kernel
theorem dX10_isWhere_24 : decode cX10_isWhere 24 = .ok (.iconst 0, 1) := by decide +kernel
theorem dX10_isWhere_25 : decode cX10_isWhere 25 = .ok (.ireturn, 1) := by decide +kernel
theorem dX10_teller_0 : decode cX10_teller 0 = .ok (.iload_n 1, 1) := by decide +kernel
theorem dX10_teller_1 : decode cX10_teller 1 = .ok (.i2l, 1) := by decide +kernel
theorem dX10_teller_2 : decode cX10_teller 2 = .ok (.lconst 0, 1) := by decide +kernel
theorem dX10_teller_3 : decode cX10_teller 3 = .ok (.ldc2_w 218, 3) := by decide +kernel
theorem dX10_teller_6 : decode cX10_teller 6 = .ok (.invokestatic 105, 3) := by decide +kernel
theorem dX10_teller_9 : decode cX10_teller 9 = .ok (.ifCond .eq 40, 3) := by decide +kernel
theorem dX10_teller_12 : decode cX10_teller 12 = .ok (.aload_n 0, 1) := by decide +kernel
theorem dX10_teller_13 : decode cX10_teller 13 = .ok (.iload_n 2, 1) := by decide +kernel
theorem dX10_teller_14 : decode cX10_teller 14 = .ok (.invokevirtual 220, 3) := by decide +kernel
theorem dX10_teller_17 : decode cX10_teller 17 = .ok (.ifCond .eq 32, 3) := by decide +kernel
theorem dX10_teller_20 : decode cX10_teller 20 = .ok (.iload_n 3, 1) := by decide +kernel
theorem dX10_teller_21 : decode cX10_teller 21 = .ok (.invokestatic 223, 3) := by decide +kernel
theorem dX10_teller_24 : decode cX10_teller 24 = .ok (.ifCond .eq 25, 3) := by decide +kernel
theorem dX10_teller_27 : decode cX10_teller 27 = .ok (.aload_n 0, 1) := by decide +kernel
theorem dX10_teller_28 : decode cX10_teller 28 = .ok (.iload 4, 2) := by decide +kernel
theorem dX10_teller_30 : decode cX10_teller 30 = .ok (.invokevirtual 226, 3) := by decide +kernel
theorem dX10_teller_33 : decode cX10_teller 33 = .ok (.ifCond .eq 16, 3) := by decide +kernel
theorem dX10_teller_36 : decode cX10_teller 36 = .ok (.iload 5, 2) := by decide +kernel
theorem dX10_teller_38 : decode cX10_teller 38 = .ok (.i2l, 1) := by decide +kernel
theorem dX10_teller_39 : decode cX10_teller 39 = .ok (.lconst 1, 1) := by decide +kernel
theorem dX10_teller_40 : decode cX10_teller 40 = .ok (.ldc2_w 125, 3) := by decide +kernel
theorem dX10_teller_43 : decode cX10_teller 43 = .ok (.invokestatic 105, 3) := by decide +kernel
theorem dX10_teller_46 : decode cX10_teller 46 = .ok (.ifCond .ne 10, 3) := by decide +kernel
theorem dX10_teller_49 : decode cX10_teller 49 = .ok (.aload_n 0, 1) := by decide +kernel
theorem dX10_teller_50 : decode cX10_teller 50 = .ok (.bipush (-2), 2) := by decide +kernel
theorem dX10_teller_52 : decode cX10_teller 52 = .ok (.invokevirtual 118, 3) := by decide +kernel
theorem dX10_teller_55 : decode cX10_teller 55 = .ok (.ireturn, 1) := by decide +kernel
theorem dX10_teller_56 : decode cX10_teller 56 = .ok (.aload_n 0, 1) := by decide +kernel
theorem dX10_teller_57 : decode cX10_teller 57 = .ok (.invokevirtual 229, 3) := by decide +kernel
theorem dX10_teller_60 : decode cX10_teller 60 = .ok (.istore 6, 2) := by decide +kernel
theorem dX10_teller_62 : decode cX10_teller 62 = .ok (.iload 6, 2) := by decide +kernel
theorem dX10_teller_64 : decode cX10_teller 64 = .ok (.bipush 6, 2) := by decide +kernel
theorem dX10_teller_66 : decode cX10_teller 66 = .ok (.if_icmp .ne 8, 3) := by decide +kernel
theorem dX10_teller_69 : decode cX10_teller 69 = .ok (.aload_n 0, 1) := by decide +kernel
theorem dX10_teller_70 : decode cX10_teller 70 = .ok (.invokevirtual 122, 3) := by decide +kernel
theorem dX10_teller_73 : decode cX10_teller 73 = .ok (.ireturn, 1) := by decide +kernel
theorem dX10_teller_74 : decode cX10_teller 74 = .ok (.aload_n 0, 1) := by decide +kernel
theorem dX10_teller_75 : decode cX10_teller 75 = .ok (.getfield 7, 3) := by decide +kernel
theorem dX10_teller_78 : decode cX10_teller 78 = .ok (.sipush 545, 3) := by decide +kernel
theorem dX10_teller_81 : decode cX10_teller 81 = .ok (.iconst 5, 1) := by decide +kernel
theorem dX10_teller_82 : decode cX10_teller 82 = .ok (.iload 6, 2) := by decide +kernel
theorem dX10_teller_84 : decode cX10_teller 84 = .ok (.imul, 1) := by decide +kernel
theorem dX10_teller_85 : decode cX10_teller 85 = .ok (.iadd, 1) := by decide +kernel
theorem dX10_teller_86 : decode cX10_teller 86 = .ok (.iload_n 1, 1) := by decide +kernel
theorem dX10_teller_87 : decode cX10_teller 87 = .ok (.iastore, 1) := by decide +kernel
theorem dX10_teller_88 : decode cX10_teller 88 = .ok (.aload_n 0, 1) := by decide +kernel
theorem dX10_teller_89 : decode cX10_teller 89 = .ok (.getfield 7, 3) := by decide +kernel
theorem dX10_teller_92 : decode cX10_teller 92 = .ok (.sipush 545, 3) := by decide +kernel
theorem dX10_teller_95 : decode cX10_teller 95 = .ok (.iconst 5, 1) := by decide +kernel
theorem dX10_teller_96 : decode cX10_teller 96 = .ok (.iload 6, 2) := by decide +kernel
theorem dX10_teller_98 : decode cX10_teller 98 = .ok (.imul, 1) := by decide +kernel
theorem dX10_teller_99 : decode cX10_teller 99 = .ok (.iadd, 1) := by decide +kernel
theorem dX10_teller_100 : decode cX10_teller 100 = .ok (.iconst 1, 1) := by decide +kernel
theorem dX10_teller_101 : decode cX10_teller 101 = .ok (.iadd, 1) := by decide +kernel
theorem dX10_teller_102 : decode cX10_teller 102 = .ok (.iload_n 2, 1) := by decide +kernel
theorem dX10_teller_103 : decode cX10_teller 103 = .ok (.iastore, 1) := by decide +kernel
theorem dX10_teller_104 : decode cX10_teller 104 = .ok (.aload_n 0, 1) := by decide +kernel
theorem dX10_teller_105 : decode cX10_teller 105 = .ok (.getfield 7, 3) := by decide +kernel
theorem dX10_teller_108 : decode cX10_teller 108 = .ok (.sipush 545, 3) := by decide +kernel
theorem dX10_teller_111 : decode cX10_teller 111 = .ok (.iconst 5, 1) := by decide +kernel
theorem dX10_teller_112 : decode cX10_teller 112 = .ok (.iload 6, 2) := by decide +kernel
theorem dX10_teller_114 : decode cX10_teller 114 = .ok (.imul, 1) := by decide +kernel
theorem dX10_teller_115 : decode cX10_teller 115 = .ok (.iadd, 1) := by decide +kernel
theorem dX10_teller_116 : decode cX10_teller 116 = .ok (.iconst 2, 1) := by decide +kernel
theorem dX10_teller_117 : decode cX10_teller 117 = .ok (.iadd, 1) := by decide +kernel
theorem dX10_teller_118 : decode cX10_teller 118 = .ok (.iload_n 3, 1) := by decide +kernel
theorem dX10_teller_119 : decode cX10_teller 119 = .ok (.iastore, 1) := by decide +kernel
theorem dX10_teller_120 : decode cX10_teller 120 = .ok (.aload_n 0, 1) := by decide +kernel
theorem dX10_teller_121 : decode cX10_teller 121 = .ok (.getfield 7, 3) := by decide +kernel
theorem dX10_teller_124 : decode cX10_teller 124 = .ok (.sipush 545, 3) := by decide +kernel
theorem dX10_teller_127 : decode cX10_teller 127 = .ok (.iconst 5, 1) := by decide +kernel
theorem dX10_teller_128 : decode cX10_teller 128 = .ok (.iload 6, 2) := by decide +kernel
theorem dX10_teller_130 : decode cX10_teller 130 = .ok (.imul, 1) := by decide +kernel
theorem dX10_teller_131 : decode cX10_teller 131 = .ok (.iadd, 1) := by decide +kernel
theorem dX10_teller_132 : decode cX10_teller 132 = .ok (.iconst 3, 1) := by decide +kernel
theorem dX10_teller_133 : decode cX10_teller 133 = .ok (.iadd, 1) := by decide +kernel
theorem dX10_teller_134 : decode cX10_teller 134 = .ok (.iload 4, 2) := by decide +kernel
theorem dX10_teller_136 : decode cX10_teller 136 = .ok (.iastore, 1) := by decide +kernel
theorem dX10_teller_137 : decode cX10_teller 137 = .ok (.aload_n 0, 1) := by decide +kernel
theorem dX10_teller_138 : decode cX10_teller 138 = .ok (.getfield 7, 3) := by decide +kernel
theorem dX10_teller_141 : decode cX10_teller 141 = .ok (.sipush 545, 3) := by decide +kernel
theorem dX10_teller_144 : decode cX10_teller 144 = .ok (.iconst 5, 1) := by decide +kernel
theorem dX10_teller_145 : decode cX10_teller 145 = .ok (.iload 6, 2) := by decide +kernel
theorem dX10_teller_147 : decode cX10_teller 147 = .ok (.imul, 1) := by decide +kernel
theorem dX10_teller_148 : decode cX10_teller 148 = .ok (.iadd, 1) := by decide +kernel
theorem dX10_teller_149 : decode cX10_teller 149 = .ok (.iconst 4, 1) := by decide +kernel
theorem dX10_teller_150 : decode cX10_teller 150 = .ok (.iadd, 1) := by decide +kernel
theorem dX10_teller_151 : decode cX10_teller 151 = .ok (.iload 5, 2) := by decide +kernel
theorem dX10_teller_153 : decode cX10_teller 153 = .ok (.iastore, 1) := by decide +kernel
theorem dX10_teller_154 : decode cX10_teller 154 = .ok (.aload_n 0, 1) := by decide +kernel
theorem dX10_teller_155 : decode cX10_teller 155 = .ok (.getfield 7, 3) := by decide +kernel
theorem dX10_teller_158 : decode cX10_teller 158 = .ok (.sipush 674, 3) := by decide +kernel
theorem dX10_teller_161 : decode cX10_teller 161 = .ok (.dup2, 1) := by decide +kernel
theorem dX10_teller_162 : decode cX10_teller 162 = .ok (.iaload, 1) := by decide +kernel
theorem dX10_teller_163 : decode cX10_teller 163 = .ok (.iconst 1, 1) := by decide +kernel
theorem dX10_teller_164 : decode cX10_teller 164 = .ok (.iadd, 1) := by decide +kernel
theorem dX10_teller_165 : decode cX10_teller 165 = .ok (.iastore, 1) := by decide +kernel
theorem dX10_teller_166 : decode cX10_teller 166 = .ok (.iload 6, 2) := by decide +kernel
theorem dX10_teller_168 : decode cX10_teller 168 = .ok (.ireturn, 1) := by decide +kernel
theorem dX10_isHeard_0 : decode cX10_isHeard 0 = .ok (.iconst 1, 1) := by decide +kernel
theorem dX10_isHeard_1 : decode cX10_isHeard 1 = .ok (.istore_n 2, 1) := by decide +kernel
theorem dX10_isHeard_2 : decode cX10_isHeard 2 = .ok (.iconst 0, 1) := by decide +kernel
theorem dX10_isHeard_3 : decode cX10_isHeard 3 = .ok (.istore_n 3, 1) := by decide +kernel
theorem dX10_isHeard_4 : decode cX10_isHeard 4 = .ok (.iload_n 3, 1) := by decide +kernel
theorem dX10_isHeard_5 : decode cX10_isHeard 5 = .ok (.iload_n 1, 1) := by decide +kernel
theorem dX10_isHeard_6 : decode cX10_isHeard 6 = .ok (.if_icmp .ge 46, 3) := by decide +kernel
theorem dX10_isHeard_9 : decode cX10_isHeard 9 = .ok (.iload_n 2, 1) := by decide +kernel
theorem dX10_isHeard_10 : decode cX10_isHeard 10 = .ok (.ifCond .eq 34, 3) := by decide +kernel
theorem dX10_isHeard_13 : decode cX10_isHeard 13 = .ok (.aload_n 0, 1) := by decide +kernel
theorem dX10_isHeard_14 : decode cX10_isHeard 14 = .ok (.getfield 7, 3) := by decide +kernel
theorem dX10_isHeard_17 : decode cX10_isHeard 17 = .ok (.sipush 545, 3) := by decide +kernel
theorem dX10_isHeard_20 : decode cX10_isHeard 20 = .ok (.iconst 5, 1) := by decide +kernel
theorem dX10_isHeard_21 : decode cX10_isHeard 21 = .ok (.iload_n 3, 1) := by decide +kernel
theorem dX10_isHeard_22 : decode cX10_isHeard 22 = .ok (.imul, 1) := by decide +kernel
theorem dX10_isHeard_23 : decode cX10_isHeard 23 = .ok (.iadd, 1) := by decide +kernel
theorem dX10_isHeard_24 : decode cX10_isHeard 24 = .ok (.iaload, 1) := by decide +kernel
theorem dX10_isHeard_25 : decode cX10_isHeard 25 = .ok (.aload_n 0, 1) := by decide +kernel
theorem dX10_isHeard_26 : decode cX10_isHeard 26 = .ok (.getfield 7, 3) := by decide +kernel
theorem dX10_isHeard_29 : decode cX10_isHeard 29 = .ok (.sipush 545, 3) := by decide +kernel
theorem dX10_isHeard_32 : decode cX10_isHeard 32 = .ok (.iconst 5, 1) := by decide +kernel
theorem dX10_isHeard_33 : decode cX10_isHeard 33 = .ok (.iload_n 1, 1) := by decide +kernel
theorem dX10_isHeard_34 : decode cX10_isHeard 34 = .ok (.imul, 1) := by decide +kernel
theorem dX10_isHeard_35 : decode cX10_isHeard 35 = .ok (.iadd, 1) := by decide +kernel
theorem dX10_isHeard_36 : decode cX10_isHeard 36 = .ok (.iaload, 1) := by decide +kernel
theorem dX10_isHeard_37 : decode cX10_isHeard 37 = .ok (.if_icmp .eq 7, 3) := by decide +kernel
theorem dX10_isHeard_40 : decode cX10_isHeard 40 = .ok (.iconst 1, 1) := by decide +kernel
theorem dX10_isHeard_41 : decode cX10_isHeard 41 = .ok (.goto 4, 3) := by decide +kernel
theorem dX10_isHeard_44 : decode cX10_isHeard 44 = .ok (.iconst 0, 1) := by decide +kernel
theorem dX10_isHeard_45 : decode cX10_isHeard 45 = .ok (.istore_n 2, 1) := by decide +kernel
theorem dX10_isHeard_46 : decode cX10_isHeard 46 = .ok (.iinc 3 1, 3) := by decide +kernel
theorem dX10_isHeard_49 : decode cX10_isHeard 49 = .ok (.goto (-45), 3) := by decide +kernel
theorem dX10_isHeard_52 : decode cX10_isHeard 52 = .ok (.iload_n 2, 1) := by decide +kernel
theorem dX10_isHeard_53 : decode cX10_isHeard 53 = .ok (.ireturn, 1) := by decide +kernel
theorem dX10_whereOf_0 : decode cX10_whereOf 0 = .ok (.aload_n 0, 1) := by decide +kernel
theorem dX10_whereOf_1 : decode cX10_whereOf 1 = .ok (.getfield 30, 3) := by decide +kernel
theorem dX10_whereOf_4 : decode cX10_whereOf 4 = .ok (.bipush 120, 2) := by decide +kernel
theorem dX10_whereOf_6 : decode cX10_whereOf 6 = .ok (.aload_n 0, 1) := by decide +kernel
theorem dX10_whereOf_7 : decode cX10_whereOf 7 = .ok (.getfield 42, 3) := by decide +kernel
theorem dX10_whereOf_10 : decode cX10_whereOf 10 = .ok (.iload_n 1, 1) := by decide +kernel
theorem dX10_whereOf_11 : decode cX10_whereOf 11 = .ok (.iaload, 1) := by decide +kernel
theorem dX10_whereOf_12 : decode cX10_whereOf 12 = .ok (.imul, 1) := by decide +kernel
theorem dX10_whereOf_13 : decode cX10_whereOf 13 = .ok (.iload_n 2, 1) := by decide +kernel
theorem dX10_whereOf_14 : decode cX10_whereOf 14 = .ok (.iadd, 1) := by decide +kernel
theorem dX10_whereOf_15 : decode cX10_whereOf 15 = .ok (.iaload, 1) := by decide +kernel
theorem dX10_whereOf_16 : decode cX10_whereOf 16 = .ok (.ireturn, 1) := by decide +kernel
theorem dX10_leftOf_0 : decode cX10_leftOf 0 = .ok (.iconst 0, 1) := by decide +kernel
theorem dX10_leftOf_1 : decode cX10_leftOf 1 = .ok (.istore_n 3, 1) := by decide +kernel
theorem dX10_leftOf_2 : decode cX10_leftOf 2 = .ok (.iconst 0, 1) := by decide +kernel
theorem dX10_leftOf_3 : decode cX10_leftOf 3 = .ok (.istore 4, 2) := by decide +kernel
theorem dX10_leftOf_5 : decode cX10_leftOf 5 = .ok (.iload 4, 2) := by decide +kernel
theorem dX10_leftOf_7 : decode cX10_leftOf 7 = .ok (.aload_n 0, 1) := by decide +kernel
theorem dX10_leftOf_8 : decode cX10_leftOf 8 = .ok (.invokevirtual 109, 3) := by decide +kernel
theorem dX10_leftOf_11 : decode cX10_leftOf 11 = .ok (.if_icmp .ge 54, 3) := by decide +kernel
theorem dX10_leftOf_14 : decode cX10_leftOf 14 = .ok (.iconst 0, 1) := by decide +kernel
theorem dX10_leftOf_15 : decode cX10_leftOf 15 = .ok (.istore 5, 2) := by decide +kernel
theorem dX10_leftOf_17 : decode cX10_leftOf 17 = .ok (.iload 5, 2) := by decide +kernel
theorem dX10_leftOf_19 : decode cX10_leftOf 19 = .ok (.bipush 120, 2) := by decide +kernel
theorem dX10_leftOf_21 : decode cX10_leftOf 21 = .ok (.if_icmp .ge 38, 3) := by decide +kernel
theorem dX10_leftOf_24 : decode cX10_leftOf 24 = .ok (.iload_n 3, 1) := by decide +kernel
theorem dX10_leftOf_25 : decode cX10_leftOf 25 = .ok (.aload_n 0, 1) := by decide +kernel
theorem dX10_leftOf_26 : decode cX10_leftOf 26 = .ok (.iload 4, 2) := by decide +kernel
theorem dX10_leftOf_28 : decode cX10_leftOf 28 = .ok (.iload 5, 2) := by decide +kernel
theorem dX10_leftOf_30 : decode cX10_leftOf 30 = .ok (.invokevirtual 232, 3) := by decide +kernel
theorem dX10_leftOf_33 : decode cX10_leftOf 33 = .ok (.iload_n 1, 1) := by decide +kernel
theorem dX10_leftOf_34 : decode cX10_leftOf 34 = .ok (.if_icmp .ne 16, 3) := by decide +kernel
theorem dX10_leftOf_37 : decode cX10_leftOf 37 = .ok (.aload_n 0, 1) := by decide +kernel
theorem dX10_leftOf_38 : decode cX10_leftOf 38 = .ok (.getfield 7, 3) := by decide +kernel
theorem dX10_leftOf_41 : decode cX10_leftOf 41 = .ok (.bipush 16, 2) := by decide +kernel
theorem dX10_leftOf_43 : decode cX10_leftOf 43 = .ok (.iload 4, 2) := by decide +kernel
theorem dX10_leftOf_45 : decode cX10_leftOf 45 = .ok (.iadd, 1) := by decide +kernel
theorem dX10_leftOf_46 : decode cX10_leftOf 46 = .ok (.iaload, 1) := by decide +kernel
theorem dX10_leftOf_47 : decode cX10_leftOf 47 = .ok (.goto 4, 3) := by decide +kernel
theorem dX10_leftOf_50 : decode cX10_leftOf 50 = .ok (.iconst 0, 1) := by decide +kernel
theorem dX10_leftOf_51 : decode cX10_leftOf 51 = .ok (.iadd, 1) := by decide +kernel
theorem dX10_leftOf_52 : decode cX10_leftOf 52 = .ok (.istore_n 3, 1) := by decide +kernel
theorem dX10_leftOf_53 : decode cX10_leftOf 53 = .ok (.iinc 5 1, 3) := by decide +kernel
theorem dX10_leftOf_56 : decode cX10_leftOf 56 = .ok (.goto (-39), 3) := by decide +kernel
theorem dX10_leftOf_59 : decode cX10_leftOf 59 = .ok (.iinc 4 1, 3) := by decide +kernel
theorem dX10_leftOf_62 : decode cX10_leftOf 62 = .ok (.goto (-57), 3) := by decide +kernel
theorem dX10_leftOf_65 : decode cX10_leftOf 65 = .ok (.iload_n 3, 1) := by decide +kernel
theorem dX10_leftOf_66 : decode cX10_leftOf 66 = .ok (.aload_n 0, 1) := by decide +kernel
theorem dX10_leftOf_67 : decode cX10_leftOf 67 = .ok (.getfield 7, 3) := by decide +kernel
theorem dX10_leftOf_70 : decode cX10_leftOf 70 = .ok (.bipush 22, 2) := by decide +kernel
theorem dX10_leftOf_72 : decode cX10_leftOf 72 = .ok (.iload_n 2, 1) := by decide +kernel
theorem dX10_leftOf_73 : decode cX10_leftOf 73 = .ok (.iadd, 1) := by decide +kernel
theorem dX10_leftOf_74 : decode cX10_leftOf 74 = .ok (.iaload, 1) := by decide +kernel
theorem dX10_leftOf_75 : decode cX10_leftOf 75 = .ok (.idiv, 1) := by decide +kernel
theorem dX10_leftOf_76 : decode cX10_leftOf 76 = .ok (.istore 4, 2) := by decide +kernel
theorem dX10_leftOf_78 : decode cX10_leftOf 78 = .ok (.iload 4, 2) := by decide +kernel
theorem dX10_leftOf_80 : decode cX10_leftOf 80 = .ok (.bipush 20, 2) := by decide +kernel
theorem dX10_leftOf_82 : decode cX10_leftOf 82 = .ok (.if_icmp .le 8, 3) := by decide +kernel
theorem dX10_leftOf_85 : decode cX10_leftOf 85 = .ok (.bipush 20, 2) := by decide +kernel
theorem dX10_leftOf_87 : decode cX10_leftOf 87 = .ok (.goto 5, 3) := by decide +kernel
theorem dX10_leftOf_90 : decode cX10_leftOf 90 = .ok (.iload 4, 2) := by decide +kernel
theorem dX10_leftOf_92 : decode cX10_leftOf 92 = .ok (.ireturn, 1) := by decide +kernel
theorem dX10_fedOf_0 : decode cX10_fedOf 0 = .ok (.aload_n 0, 1) := by decide +kernel
theorem dX10_fedOf_1 : decode cX10_fedOf 1 = .ok (.getfield 7, 3) := by decide +kernel
theorem dX10_fedOf_4 : decode cX10_fedOf 4 = .ok (.iconst 0, 1) := by decide +kernel
theorem dX10_fedOf_5 : decode cX10_fedOf 5 = .ok (.iload_n 1, 1) := by decide +kernel
theorem dX10_fedOf_6 : decode cX10_fedOf 6 = .ok (.iadd, 1) := by decide +kernel
theorem dX10_fedOf_7 : decode cX10_fedOf 7 = .ok (.iaload, 1) := by decide +kernel
theorem dX10_fedOf_8 : decode cX10_fedOf 8 = .ok (.aload_n 0, 1) := by decide +kernel
theorem dX10_fedOf_9 : decode cX10_fedOf 9 = .ok (.getfield 7, 3) := by decide +kernel
theorem dX10_fedOf_12 : decode cX10_fedOf 12 = .ok (.bipush 6, 2) := by decide +kernel
theorem dX10_fedOf_14 : decode cX10_fedOf 14 = .ok (.iload_n 2, 1) := by decide +kernel
theorem dX10_fedOf_15 : decode cX10_fedOf 15 = .ok (.iadd, 1) := by decide +kernel
theorem dX10_fedOf_16 : decode cX10_fedOf 16 = .ok (.iaload, 1) := by decide +kernel
theorem dX10_fedOf_17 : decode cX10_fedOf 17 = .ok (.imul, 1) := by decide +kernel
theorem dX10_fedOf_18 : decode cX10_fedOf 18 = .ok (.iconst 5, 1) := by decide +kernel
theorem dX10_fedOf_19 : decode cX10_fedOf 19 = .ok (.idiv, 1) := by decide +kernel
theorem dX10_fedOf_20 : decode cX10_fedOf 20 = .ok (.ireturn, 1) := by decide +kernel
theorem dX10_isHungry_0 : decode cX10_isHungry 0 = .ok (.iconst 0, 1) := by decide +kernel
theorem dX10_isHungry_1 : decode cX10_isHungry 1 = .ok (.istore_n 3, 1) := by decide +kernel
theorem dX10_isHungry_2 : decode cX10_isHungry 2 = .ok (.bipush 12, 2) := by decide +kernel
theorem dX10_isHungry_4 : decode cX10_isHungry 4 = .ok (.iload_n 2, 1) := by decide +kernel
theorem dX10_isHungry_5 : decode cX10_isHungry 5 = .ok (.imul, 1) := by decide +kernel
theorem dX10_isHungry_6 : decode cX10_isHungry 6 = .ok (.istore 4, 2) := by decide +kernel
theorem dX10_isHungry_8 : decode cX10_isHungry 8 = .ok (.iload 4, 2) := by decide +kernel
theorem dX10_isHungry_10 : decode cX10_isHungry 10 = .ok (.bipush 12, 2) := by decide +kernel
theorem dX10_isHungry_12 : decode cX10_isHungry 12 = .ok (.iload_n 2, 1) := by decide +kernel
theorem dX10_isHungry_13 : decode cX10_isHungry 13 = .ok (.imul, 1) := by decide +kernel
theorem dX10_isHungry_14 : decode cX10_isHungry 14 = .ok (.bipush 12, 2) := by decide +kernel
theorem dX10_isHungry_16 : decode cX10_isHungry 16 = .ok (.iadd, 1) := by decide +kernel
theorem dX10_isHungry_17 : decode cX10_isHungry 17 = .ok (.if_icmp .ge 82, 3) := by decide +kernel
theorem dX10_isHungry_20 : decode cX10_isHungry 20 = .ok (.iconst 0, 1) := by decide +kernel
theorem dX10_isHungry_21 : decode cX10_isHungry 21 = .ok (.istore 5, 2) := by decide +kernel
theorem dX10_isHungry_23 : decode cX10_isHungry 23 = .ok (.iconst 0, 1) := by decide +kernel
theorem dX10_isHungry_24 : decode cX10_isHungry 24 = .ok (.istore 6, 2) := by decide +kernel
theorem dX10_isHungry_26 : decode cX10_isHungry 26 = .ok (.iload 6, 2) := by decide +kernel
theorem dX10_isHungry_28 : decode cX10_isHungry 28 = .ok (.aload_n 0, 1) := by decide +kernel
theorem dX10_isHungry_29 : decode cX10_isHungry 29 = .ok (.invokevirtual 109, 3) := by decide +kernel
theorem dX10_isHungry_32 : decode cX10_isHungry 32 = .ok (.if_icmp .ge 40, 3) := by decide +kernel
theorem dX10_isHungry_35 : decode cX10_isHungry 35 = .ok (.iload 5, 2) := by decide +kernel
theorem dX10_isHungry_37 : decode cX10_isHungry 37 = .ok (.aload_n 0, 1) := by decide +kernel
theorem dX10_isHungry_38 : decode cX10_isHungry 38 = .ok (.iload 6, 2) := by decide +kernel
theorem dX10_isHungry_40 : decode cX10_isHungry 40 = .ok (.iload 4, 2) := by decide +kernel
theorem dX10_isHungry_42 : decode cX10_isHungry 42 = .ok (.invokevirtual 232, 3) := by decide +kernel
theorem dX10_isHungry_45 : decode cX10_isHungry 45 = .ok (.iload_n 1, 1) := by decide +kernel
theorem dX10_isHungry_46 : decode cX10_isHungry 46 = .ok (.if_icmp .ne 16, 3) := by decide +kernel
theorem dX10_isHungry_49 : decode cX10_isHungry 49 = .ok (.aload_n 0, 1) := by decide +kernel
theorem dX10_isHungry_50 : decode cX10_isHungry 50 = .ok (.getfield 7, 3) := by decide +kernel
theorem dX10_isHungry_53 : decode cX10_isHungry 53 = .ok (.bipush 16, 2) := by decide +kernel
theorem dX10_isHungry_55 : decode cX10_isHungry 55 = .ok (.iload 6, 2) := by decide +kernel
theorem dX10_isHungry_57 : decode cX10_isHungry 57 = .ok (.iadd, 1) := by decide +kernel
theorem dX10_isHungry_58 : decode cX10_isHungry 58 = .ok (.iaload, 1) := by decide +kernel
theorem dX10_isHungry_59 : decode cX10_isHungry 59 = .ok (.goto 4, 3) := by decide +kernel
theorem dX10_isHungry_62 : decode cX10_isHungry 62 = .ok (.iconst 0, 1) := by decide +kernel
theorem dX10_isHungry_63 : decode cX10_isHungry 63 = .ok (.iadd, 1) := by decide +kernel
theorem dX10_isHungry_64 : decode cX10_isHungry 64 = .ok (.istore 5, 2) := by decide +kernel
theorem dX10_isHungry_66 : decode cX10_isHungry 66 = .ok (.iinc 6 1, 3) := by decide +kernel
theorem dX10_isHungry_69 : decode cX10_isHungry 69 = .ok (.goto (-43), 3) := by decide +kernel
theorem dX10_isHungry_72 : decode cX10_isHungry 72 = .ok (.iload_n 3, 1) := by decide +kernel
theorem dX10_isHungry_73 : decode cX10_isHungry 73 = .ok (.ifCond .ne 14, 3) := by decide +kernel
theorem dX10_isHungry_76 : decode cX10_isHungry 76 = .ok (.iload 5, 2) := by decide +kernel
theorem dX10_isHungry_78 : decode cX10_isHungry 78 = .ok (.aload_n 0, 1) := by decide +kernel
theorem dX10_isHungry_79 : decode cX10_isHungry 79 = .ok (.iload_n 1, 1) := by decide +kernel
theorem dX10_isHungry_80 : decode cX10_isHungry 80 = .ok (.iload_n 2, 1) := by decide +kernel
theorem dX10_isHungry_81 : decode cX10_isHungry 81 = .ok (.invokevirtual 235, 3) := by decide +kernel
theorem dX10_isHungry_84 : decode cX10_isHungry 84 = .ok (.if_icmp .le 7, 3) := by decide +kernel
theorem dX10_isHungry_87 : decode cX10_isHungry 87 = .ok (.iconst 1, 1) := by decide +kernel
theorem dX10_isHungry_88 : decode cX10_isHungry 88 = .ok (.goto 4, 3) := by decide +kernel
theorem dX10_isHungry_91 : decode cX10_isHungry 91 = .ok (.iconst 0, 1) := by decide +kernel
theorem dX10_isHungry_92 : decode cX10_isHungry 92 = .ok (.istore_n 3, 1) := by decide +kernel
theorem dX10_isHungry_93 : decode cX10_isHungry 93 = .ok (.iinc 4 1, 3) := by decide +kernel
theorem dX10_isHungry_96 : decode cX10_isHungry 96 = .ok (.goto (-88), 3) := by decide +kernel
theorem dX10_isHungry_99 : decode cX10_isHungry 99 = .ok (.iload_n 3, 1) := by decide +kernel
theorem dX10_isHungry_100 : decode cX10_isHungry 100 = .ok (.ireturn, 1) := by decide +kernel
theorem dX10_hungerOf_0 : decode cX10_hungerOf 0 = .ok (.iconst 0, 1) := by decide +kernel
theorem dX10_hungerOf_1 : decode cX10_hungerOf 1 = .ok (.istore_n 1, 1) := by decide +kernel
theorem dX10_hungerOf_2 : decode cX10_hungerOf 2 = .ok (.iconst 0, 1) := by decide +kernel
theorem dX10_hungerOf_3 : decode cX10_hungerOf 3 = .ok (.istore_n 2, 1) := by decide +kernel
theorem dX10_hungerOf_4 : decode cX10_hungerOf 4 = .ok (.iload_n 2, 1) := by decide +kernel
theorem dX10_hungerOf_5 : decode cX10_hungerOf 5 = .ok (.aload_n 0, 1) := by decide +kernel
theorem dX10_hungerOf_6 : decode cX10_hungerOf 6 = .ok (.invokevirtual 101, 3) := by decide +kernel
theorem dX10_hungerOf_9 : decode cX10_hungerOf 9 = .ok (.if_icmp .ge 40, 3) := by decide +kernel
theorem dX10_hungerOf_12 : decode cX10_hungerOf 12 = .ok (.iconst 0, 1) := by decide +kernel
theorem dX10_hungerOf_13 : decode cX10_hungerOf 13 = .ok (.istore_n 3, 1) := by decide +kernel
theorem dX10_hungerOf_14 : decode cX10_hungerOf 14 = .ok (.iload_n 3, 1) := by decide +kernel
theorem dX10_hungerOf_15 : decode cX10_hungerOf 15 = .ok (.bipush 10, 2) := by decide +kernel
theorem dX10_hungerOf_17 : decode cX10_hungerOf 17 = .ok (.if_icmp .ge 26, 3) := by decide +kernel
theorem dX10_hungerOf_20 : decode cX10_hungerOf 20 = .ok (.iload_n 1, 1) := by decide +kernel
theorem dX10_hungerOf_21 : decode cX10_hungerOf 21 = .ok (.aload_n 0, 1) := by decide +kernel
theorem dX10_hungerOf_22 : decode cX10_hungerOf 22 = .ok (.iload_n 2, 1) := by decide +kernel
theorem dX10_hungerOf_23 : decode cX10_hungerOf 23 = .ok (.iload_n 3, 1) := by decide +kernel
theorem dX10_hungerOf_24 : decode cX10_hungerOf 24 = .ok (.invokevirtual 238, 3) := by decide +kernel
theorem dX10_hungerOf_27 : decode cX10_hungerOf 27 = .ok (.ifCond .eq 7, 3) := by decide +kernel
theorem dX10_hungerOf_30 : decode cX10_hungerOf 30 = .ok (.iconst 1, 1) := by decide +kernel
theorem dX10_hungerOf_31 : decode cX10_hungerOf 31 = .ok (.goto 4, 3) := by decide +kernel
theorem dX10_hungerOf_34 : decode cX10_hungerOf 34 = .ok (.iconst 0, 1) := by decide +kernel
theorem dX10_hungerOf_35 : decode cX10_hungerOf 35 = .ok (.iadd, 1) := by decide +kernel
theorem dX10_hungerOf_36 : decode cX10_hungerOf 36 = .ok (.istore_n 1, 1) := by decide +kernel
theorem dX10_hungerOf_37 : decode cX10_hungerOf 37 = .ok (.iinc 3 1, 3) := by decide +kernel
theorem dX10_hungerOf_40 : decode cX10_hungerOf 40 = .ok (.goto (-26), 3) := by decide +kernel
theorem dX10_hungerOf_43 : decode cX10_hungerOf 43 = .ok (.iinc 2 1, 3) := by decide +kernel
theorem dX10_hungerOf_46 : decode cX10_hungerOf 46 = .ok (.goto (-42), 3) := by decide +kernel
theorem dX10_hungerOf_49 : decode cX10_hungerOf 49 = .ok (.iload_n 1, 1) := by decide +kernel
theorem dX10_hungerOf_50 : decode cX10_hungerOf 50 = .ok (.ireturn, 1) := by decide +kernel
theorem dX10_timesAll_0 : decode cX10_timesAll 0 = .ok (.iconst 0, 1) := by decide +kernel
theorem dX10_timesAll_1 : decode cX10_timesAll 1 = .ok (.istore 5, 2) := by decide +kernel
theorem dX10_timesAll_3 : decode cX10_timesAll 3 = .ok (.iload 5, 2) := by decide +kernel
theorem dX10_timesAll_5 : decode cX10_timesAll 5 = .ok (.iload 4, 2) := by decide +kernel
theorem dX10_timesAll_7 : decode cX10_timesAll 7 = .ok (.if_icmp .ge 15, 3) := by decide +kernel
theorem dX10_timesAll_10 : decode cX10_timesAll 10 = .ok (.aload_n 0, 1) := by decide +kernel
theorem dX10_timesAll_11 : decode cX10_timesAll 11 = .ok (.iload_n 1, 1) := by decide +kernel
theorem dX10_timesAll_12 : decode cX10_timesAll 12 = .ok (.lload_n 2, 1) := by decide +kernel
theorem dX10_timesAll_13 : decode cX10_timesAll 13 = .ok (.invokevirtual 81, 3) := by decide +kernel
theorem dX10_timesAll_16 : decode cX10_timesAll 16 = .ok (.iinc 5 1, 3) := by decide +kernel
theorem dX10_timesAll_19 : decode cX10_timesAll 19 = .ok (.goto (-16), 3) := by decide +kernel
theorem dX10_timesAll_22 : decode cX10_timesAll 22 = .ok (.return_, 1) := by decide +kernel
theorem dX10_findSign_0 : decode cX10_findSign 0 = .ok (.aload_n 0, 1) := by decide +kernel
theorem dX10_findSign_1 : decode cX10_findSign 1 = .ok (.aload_n 0, 1) := by decide +kernel
theorem dX10_findSign_2 : decode cX10_findSign 2 = .ok (.getfield 7, 3) := by decide +kernel
theorem dX10_findSign_5 : decode cX10_findSign 5 = .ok (.sipush 518, 3) := by decide +kernel
theorem dX10_findSign_8 : decode cX10_findSign 8 = .ok (.iconst 4, 1) := by decide +kernel
theorem dX10_findSign_9 : decode cX10_findSign 9 = .ok (.iload_n 1, 1) := by decide +kernel
theorem dX10_findSign_10 : decode cX10_findSign 10 = .ok (.imul, 1) := by decide +kernel
theorem dX10_findSign_11 : decode cX10_findSign 11 = .ok (.iadd, 1) := by decide +kernel
theorem dX10_findSign_12 : decode cX10_findSign 12 = .ok (.iaload, 1) := by decide +kernel
theorem dX10_findSign_13 : decode cX10_findSign 13 = .ok (.aload_n 0, 1) := by decide +kernel
theorem dX10_findSign_14 : decode cX10_findSign 14 = .ok (.getfield 7, 3) := by decide +kernel
theorem dX10_findSign_17 : decode cX10_findSign 17 = .ok (.sipush 518, 3) := by decide +kernel
theorem dX10_findSign_20 : decode cX10_findSign 20 = .ok (.iconst 4, 1) := by decide +kernel
theorem dX10_findSign_21 : decode cX10_findSign 21 = .ok (.iload_n 1, 1) := by decide +kernel
theorem dX10_findSign_22 : decode cX10_findSign 22 = .ok (.imul, 1) := by decide +kernel
theorem dX10_findSign_23 : decode cX10_findSign 23 = .ok (.iadd, 1) := by decide +kernel
theorem dX10_findSign_24 : decode cX10_findSign 24 = .ok (.iconst 1, 1) := by decide +kernel
theorem dX10_findSign_25 : decode cX10_findSign 25 = .ok (.iadd, 1) := by decide +kernel
theorem dX10_findSign_26 : decode cX10_findSign 26 = .ok (.iaload, 1) := by decide +kernel
theorem dX10_findSign_27 : decode cX10_findSign 27 = .ok (.invokevirtual 241, 3) := by decide +kernel
theorem dX10_findSign_30 : decode cX10_findSign 30 = .ok (.istore_n 2, 1) := by decide +kernel
theorem dX10_findSign_31 : decode cX10_findSign 31 = .ok (.aload_n 0, 1) := by decide +kernel
theorem dX10_findSign_32 : decode cX10_findSign 32 = .ok (.getfield 7, 3) := by decide +kernel
theorem dX10_findSign_35 : decode cX10_findSign 35 = .ok (.sipush 518, 3) := by decide +kernel
theorem dX10_findSign_38 : decode cX10_findSign 38 = .ok (.iconst 4, 1) := by decide +kernel
theorem dX10_findSign_39 : decode cX10_findSign 39 = .ok (.iload_n 1, 1) := by decide +kernel
theorem dX10_findSign_40 : decode cX10_findSign 40 = .ok (.imul, 1) := by decide +kernel
theorem dX10_findSign_41 : decode cX10_findSign 41 = .ok (.iadd, 1) := by decide +kernel
theorem dX10_findSign_42 : decode cX10_findSign 42 = .ok (.iconst 2, 1) := by decide +kernel
theorem dX10_findSign_43 : decode cX10_findSign 43 = .ok (.iadd, 1) := by decide +kernel
theorem dX10_findSign_44 : decode cX10_findSign 44 = .ok (.iaload, 1) := by decide +kernel
theorem dX10_findSign_45 : decode cX10_findSign 45 = .ok (.istore_n 3, 1) := by decide +kernel
theorem dX10_findSign_46 : decode cX10_findSign 46 = .ok (.aload_n 0, 1) := by decide +kernel
theorem dX10_findSign_47 : decode cX10_findSign 47 = .ok (.getfield 7, 3) := by decide +kernel
theorem dX10_findSign_50 : decode cX10_findSign 50 = .ok (.sipush 518, 3) := by decide +kernel
theorem dX10_findSign_53 : decode cX10_findSign 53 = .ok (.iconst 4, 1) := by decide +kernel
theorem dX10_findSign_54 : decode cX10_findSign 54 = .ok (.iload_n 1, 1) := by decide +kernel
theorem dX10_findSign_55 : decode cX10_findSign 55 = .ok (.imul, 1) := by decide +kernel
theorem dX10_findSign_56 : decode cX10_findSign 56 = .ok (.iadd, 1) := by decide +kernel
theorem dX10_findSign_57 : decode cX10_findSign 57 = .ok (.iconst 3, 1) := by decide +kernel
theorem dX10_findSign_58 : decode cX10_findSign 58 = .ok (.iadd, 1) := by decide +kernel
theorem dX10_findSign_59 : decode cX10_findSign 59 = .ok (.iaload, 1) := by decide +kernel
theorem dX10_findSign_60 : decode cX10_findSign 60 = .ok (.istore 4, 2) := by decide +kernel
theorem dX10_findSign_62 : decode cX10_findSign 62 = .ok (.aload_n 0, 1) := by decide +kernel
theorem dX10_findSign_63 : decode cX10_findSign 63 = .ok (.getfield 7, 3) := by decide +kernel
theorem dX10_findSign_66 : decode cX10_findSign 66 = .ok (.bipush 26, 2) := by decide +kernel
theorem dX10_findSign_68 : decode cX10_findSign 68 = .ok (.aload_n 0, 1) := by decide +kernel
theorem dX10_findSign_69 : decode cX10_findSign 69 = .ok (.getfield 7, 3) := by decide +kernel
theorem dX10_findSign_72 : decode cX10_findSign 72 = .ok (.sipush 518, 3) := by decide +kernel
theorem dX10_findSign_75 : decode cX10_findSign 75 = .ok (.iconst 4, 1) := by decide +kernel
theorem dX10_findSign_76 : decode cX10_findSign 76 = .ok (.iload_n 1, 1) := by decide +kernel
theorem dX10_findSign_77 : decode cX10_findSign 77 = .ok (.imul, 1) := by decide +kernel
theorem dX10_findSign_78 : decode cX10_findSign 78 = .ok (.iadd, 1) := by decide +kernel
theorem dX10_findSign_79 : decode cX10_findSign 79 = .ok (.iconst 1, 1) := by decide +kernel
theorem dX10_findSign_80 : decode cX10_findSign 80 = .ok (.iadd, 1) := by decide +kernel
theorem dX10_findSign_81 : decode cX10_findSign 81 = .ok (.iaload, 1) := by decide +kernel
theorem dX10_findSign_82 : decode cX10_findSign 82 = .ok (.iadd, 1) := by decide +kernel
theorem dX10_findSign_83 : decode cX10_findSign 83 = .ok (.iaload, 1) := by decide +kernel
theorem dX10_findSign_84 : decode cX10_findSign 84 = .ok (.istore 5, 2) := by decide +kernel
theorem dX10_findSign_86 : decode cX10_findSign 86 = .ok (.aload_n 0, 1) := by decide +kernel
theorem dX10_findSign_87 : decode cX10_findSign 87 = .ok (.bipush 11, 2) := by decide +kernel
theorem dX10_findSign_89 : decode cX10_findSign 89 = .ok (.lconst 0, 1) := by decide +kernel
theorem dX10_findSign_90 : decode cX10_findSign 90 = .ok (.invokevirtual 51, 3) := by decide +kernel
theorem dX10_findSign_93 : decode cX10_findSign 93 = .ok (.lconst 1, 1) := by decide +kernel
theorem dX10_findSign_94 : decode cX10_findSign 94 = .ok (.lstore 6, 2) := by decide +kernel
theorem dX10_findSign_96 : decode cX10_findSign 96 = .ok (.iconst 0, 1) := by decide +kernel
theorem dX10_findSign_97 : decode cX10_findSign 97 = .ok (.istore 8, 2) := by decide +kernel
theorem dX10_findSign_99 : decode cX10_findSign 99 = .ok (.iload 8, 2) := by decide +kernel
theorem dX10_findSign_101 : decode cX10_findSign 101 = .ok (.iload_n 3, 1) := by decide +kernel
theorem dX10_findSign_102 : decode cX10_findSign 102 = .ok (.if_icmp .gt 110, 3) := by decide +kernel
theorem dX10_findSign_105 : decode cX10_findSign 105 = .ok (.iload 8, 2) := by decide +kernel
theorem dX10_findSign_107 : decode cX10_findSign 107 = .ok (.iload_n 2, 1) := by decide +kernel
theorem dX10_findSign_108 : decode cX10_findSign 108 = .ok (.if_icmp .gt 104, 3) := by decide +kernel
theorem dX10_findSign_111 : decode cX10_findSign 111 = .ok (.aload_n 0, 1) := by decide +kernel
theorem dX10_findSign_112 : decode cX10_findSign 112 = .ok (.bipush 7, 2) := by decide +kernel
theorem dX10_findSign_114 : decode cX10_findSign 114 = .ok (.lload 6, 2) := by decide +kernel
theorem dX10_findSign_116 : decode cX10_findSign 116 = .ok (.invokevirtual 51, 3) := by decide +kernel
theorem dX10_findSign_119 : decode cX10_findSign 119 = .ok (.aload_n 0, 1) := by decide +kernel
theorem dX10_findSign_120 : decode cX10_findSign 120 = .ok (.bipush 7, 2) := by decide +kernel
theorem dX10_findSign_122 : decode cX10_findSign 122 = .ok (.iload 4, 2) := by decide +kernel
theorem dX10_findSign_124 : decode cX10_findSign 124 = .ok (.i2l, 1) := by decide +kernel
theorem dX10_findSign_125 : decode cX10_findSign 125 = .ok (.iload 8, 2) := by decide +kernel
theorem dX10_findSign_127 : decode cX10_findSign 127 = .ok (.invokevirtual 244, 3) := by decide +kernel
theorem dX10_findSign_130 : decode cX10_findSign 130 = .ok (.aload_n 0, 1) := by decide +kernel
theorem dX10_findSign_131 : decode cX10_findSign 131 = .ok (.bipush 7, 2) := by decide +kernel
theorem dX10_findSign_133 : decode cX10_findSign 133 = .ok (.bipush 10, 2) := by decide +kernel
theorem dX10_findSign_135 : decode cX10_findSign 135 = .ok (.iload 4, 2) := by decide +kernel
theorem dX10_findSign_137 : decode cX10_findSign 137 = .ok (.isub, 1) := by decide +kernel
theorem dX10_findSign_138 : decode cX10_findSign 138 = .ok (.i2l, 1) := by decide +kernel
theorem dX10_findSign_139 : decode cX10_findSign 139 = .ok (.iload_n 2, 1) := by decide +kernel
theorem dX10_findSign_140 : decode cX10_findSign 140 = .ok (.iload 8, 2) := by decide +kernel
theorem dX10_findSign_142 : decode cX10_findSign 142 = .ok (.isub, 1) := by decide +kernel
theorem dX10_findSign_143 : decode cX10_findSign 143 = .ok (.invokevirtual 244, 3) := by decide +kernel
theorem dX10_findSign_146 : decode cX10_findSign 146 = .ok (.aload_n 0, 1) := by decide +kernel
theorem dX10_findSign_147 : decode cX10_findSign 147 = .ok (.bipush 7, 2) := by decide +kernel
theorem dX10_findSign_149 : decode cX10_findSign 149 = .ok (.iload 5, 2) := by decide +kernel
theorem dX10_findSign_151 : decode cX10_findSign 151 = .ok (.i2l, 1) := by decide +kernel
theorem dX10_findSign_152 : decode cX10_findSign 152 = .ok (.iload_n 3, 1) := by decide +kernel
theorem dX10_findSign_153 : decode cX10_findSign 153 = .ok (.iload 8, 2) := by decide +kernel
theorem dX10_findSign_155 : decode cX10_findSign 155 = .ok (.isub, 1) := by decide +kernel
theorem dX10_findSign_156 : decode cX10_findSign 156 = .ok (.invokevirtual 244, 3) := by decide +kernel
theorem dX10_findSign_159 : decode cX10_findSign 159 = .ok (.aload_n 0, 1) := by decide +kernel
theorem dX10_findSign_160 : decode cX10_findSign 160 = .ok (.bipush 7, 2) := by decide +kernel
theorem dX10_findSign_162 : decode cX10_findSign 162 = .ok (.bipush 10, 2) := by decide +kernel
theorem dX10_findSign_164 : decode cX10_findSign 164 = .ok (.iload 5, 2) := by decide +kernel
theorem dX10_findSign_166 : decode cX10_findSign 166 = .ok (.isub, 1) := by decide +kernel
theorem dX10_findSign_167 : decode cX10_findSign 167 = .ok (.i2l, 1) := by decide +kernel
theorem dX10_findSign_168 : decode cX10_findSign 168 = .ok (.invokevirtual 81, 3) := by decide +kernel
theorem dX10_findSign_171 : decode cX10_findSign 171 = .ok (.aload_n 0, 1) := by decide +kernel
theorem dX10_findSign_172 : decode cX10_findSign 172 = .ok (.bipush 7, 2) := by decide +kernel
theorem dX10_findSign_174 : decode cX10_findSign 174 = .ok (.ldc2_w 209, 3) := by decide +kernel
theorem dX10_findSign_177 : decode cX10_findSign 177 = .ok (.iload 8, 2) := by decide +kernel
theorem dX10_findSign_179 : decode cX10_findSign 179 = .ok (.invokevirtual 244, 3) := by decide +kernel
theorem dX10_findSign_182 : decode cX10_findSign 182 = .ok (.aload_n 0, 1) := by decide +kernel
theorem dX10_findSign_183 : decode cX10_findSign 183 = .ok (.bipush 11, 2) := by decide +kernel
theorem dX10_findSign_185 : decode cX10_findSign 185 = .ok (.bipush 7, 2) := by decide +kernel
theorem dX10_findSign_187 : decode cX10_findSign 187 = .ok (.invokevirtual 248, 3) := by decide +kernel
theorem dX10_findSign_190 : decode cX10_findSign 190 = .ok (.lload 6, 2) := by decide +kernel
theorem dX10_findSign_192 : decode cX10_findSign 192 = .ok (.iload_n 2, 1) := by decide +kernel
theorem dX10_findSign_193 : decode cX10_findSign 193 = .ok (.iload 8, 2) := by decide +kernel
theorem dX10_findSign_195 : decode cX10_findSign 195 = .ok (.isub, 1) := by decide +kernel
theorem dX10_findSign_196 : decode cX10_findSign 196 = .ok (.i2l, 1) := by decide +kernel
theorem dX10_findSign_197 : decode cX10_findSign 197 = .ok (.lmul, 1) := by decide +kernel
theorem dX10_findSign_198 : decode cX10_findSign 198 = .ok (.iload 8, 2) := by decide +kernel
theorem dX10_findSign_200 : decode cX10_findSign 200 = .ok (.iconst 1, 1) := by decide +kernel
theorem dX10_findSign_201 : decode cX10_findSign 201 = .ok (.iadd, 1) := by decide +kernel
theorem dX10_findSign_202 : decode cX10_findSign 202 = .ok (.i2l, 1) := by decide +kernel
theorem dX10_findSign_203 : decode cX10_findSign 203 = .ok (.ldiv, 1) := by decide +kernel
theorem dX10_findSign_204 : decode cX10_findSign 204 = .ok (.lstore 6, 2) := by decide +kernel
theorem dX10_findSign_206 : decode cX10_findSign 206 = .ok (.iinc 8 1, 3) := by decide +kernel
theorem dX10_findSign_209 : decode cX10_findSign 209 = .ok (.goto (-110), 3) := by decide +kernel
theorem dX10_findSign_212 : decode cX10_findSign 212 = .ok (.aload_n 0, 1) := by decide +kernel
theorem dX10_findSign_213 : decode cX10_findSign 213 = .ok (.bipush 11, 2) := by decide +kernel
theorem dX10_findSign_215 : decode cX10_findSign 215 = .ok (.ldc2_w 209, 3) := by decide +kernel
theorem dX10_findSign_218 : decode cX10_findSign 218 = .ok (.bipush 29, 2) := by decide +kernel
theorem dX10_findSign_220 : decode cX10_findSign 220 = .ok (.iload_n 2, 1) := by decide +kernel
theorem dX10_findSign_221 : decode cX10_findSign 221 = .ok (.isub, 1) := by decide +kernel
theorem dX10_findSign_222 : decode cX10_findSign 222 = .ok (.iload_n 3, 1) := by decide +kernel
theorem dX10_findSign_223 : decode cX10_findSign 223 = .ok (.isub, 1) := by decide +kernel
theorem dX10_findSign_224 : decode cX10_findSign 224 = .ok (.invokevirtual 244, 3) := by decide +kernel
theorem dX10_findSign_227 : decode cX10_findSign 227 = .ok (.return_, 1) := by decide +kernel
theorem dX10_isSaidSo_0 : decode cX10_isSaidSo 0 = .ok (.aload_n 0, 1) := by decide +kernel
theorem dX10_isSaidSo_1 : decode cX10_isSaidSo 1 = .ok (.aload_n 0, 1) := by decide +kernel
theorem dX10_isSaidSo_2 : decode cX10_isSaidSo 2 = .ok (.getfield 7, 3) := by decide +kernel
theorem dX10_isSaidSo_5 : decode cX10_isSaidSo 5 = .ok (.sipush 545, 3) := by decide +kernel
theorem dX10_isSaidSo_8 : decode cX10_isSaidSo 8 = .ok (.iconst 5, 1) := by decide +kernel
theorem dX10_isSaidSo_9 : decode cX10_isSaidSo 9 = .ok (.iload_n 1, 1) := by decide +kernel
theorem dX10_isSaidSo_10 : decode cX10_isSaidSo 10 = .ok (.imul, 1) := by decide +kernel
theorem dX10_isSaidSo_11 : decode cX10_isSaidSo 11 = .ok (.iadd, 1) := by decide +kernel
theorem dX10_isSaidSo_12 : decode cX10_isSaidSo 12 = .ok (.iconst 1, 1) := by decide +kernel
theorem dX10_isSaidSo_13 : decode cX10_isSaidSo 13 = .ok (.iadd, 1) := by decide +kernel
theorem dX10_isSaidSo_14 : decode cX10_isSaidSo 14 = .ok (.iaload, 1) := by decide +kernel
theorem dX10_isSaidSo_15 : decode cX10_isSaidSo 15 = .ok (.aload_n 0, 1) := by decide +kernel
theorem dX10_isSaidSo_16 : decode cX10_isSaidSo 16 = .ok (.getfield 7, 3) := by decide +kernel
theorem dX10_isSaidSo_19 : decode cX10_isSaidSo 19 = .ok (.sipush 545, 3) := by decide +kernel
theorem dX10_isSaidSo_22 : decode cX10_isSaidSo 22 = .ok (.iconst 5, 1) := by decide +kernel
theorem dX10_isSaidSo_23 : decode cX10_isSaidSo 23 = .ok (.iload_n 1, 1) := by decide +kernel
theorem dX10_isSaidSo_24 : decode cX10_isSaidSo 24 = .ok (.imul, 1) := by decide +kernel
theorem dX10_isSaidSo_25 : decode cX10_isSaidSo 25 = .ok (.iadd, 1) := by decide +kernel
theorem dX10_isSaidSo_26 : decode cX10_isSaidSo 26 = .ok (.iconst 2, 1) := by decide +kernel
theorem dX10_isSaidSo_27 : decode cX10_isSaidSo 27 = .ok (.iadd, 1) := by decide +kernel
theorem dX10_isSaidSo_28 : decode cX10_isSaidSo 28 = .ok (.iaload, 1) := by decide +kernel
theorem dX10_isSaidSo_29 : decode cX10_isSaidSo 29 = .ok (.invokevirtual 232, 3) := by decide +kernel
theorem dX10_isSaidSo_32 : decode cX10_isSaidSo 32 = .ok (.aload_n 0, 1) := by decide +kernel
theorem dX10_isSaidSo_33 : decode cX10_isSaidSo 33 = .ok (.getfield 7, 3) := by decide +kernel
theorem dX10_isSaidSo_36 : decode cX10_isSaidSo 36 = .ok (.sipush 545, 3) := by decide +kernel
theorem dX10_isSaidSo_39 : decode cX10_isSaidSo 39 = .ok (.iconst 5, 1) := by decide +kernel
theorem dX10_isSaidSo_40 : decode cX10_isSaidSo 40 = .ok (.iload_n 1, 1) := by decide +kernel
theorem dX10_isSaidSo_41 : decode cX10_isSaidSo 41 = .ok (.imul, 1) := by decide +kernel
theorem dX10_isSaidSo_42 : decode cX10_isSaidSo 42 = .ok (.iadd, 1) := by decide +kernel
theorem dX10_isSaidSo_43 : decode cX10_isSaidSo 43 = .ok (.iconst 3, 1) := by decide +kernel
theorem dX10_isSaidSo_44 : decode cX10_isSaidSo 44 = .ok (.iadd, 1) := by decide +kernel
theorem dX10_isSaidSo_45 : decode cX10_isSaidSo 45 = .ok (.iaload, 1) := by decide +kernel
theorem dX10_isSaidSo_46 : decode cX10_isSaidSo 46 = .ok (.if_icmp .ne 7, 3) := by decide +kernel
theorem dX10_isSaidSo_49 : decode cX10_isSaidSo 49 = .ok (.iconst 1, 1) := by decide +kernel
theorem dX10_isSaidSo_50 : decode cX10_isSaidSo 50 = .ok (.goto 4, 3) := by decide +kernel
theorem dX10_isSaidSo_53 : decode cX10_isSaidSo 53 = .ok (.iconst 0, 1) := by decide +kernel
theorem dX10_isSaidSo_54 : decode cX10_isSaidSo 54 = .ok (.ireturn, 1) := by decide +kernel
theorem dX10_weigh_0 : decode cX10_weigh 0 = .ok (.aload_n 0, 1) := by decide +kernel
theorem dX10_weigh_1 : decode cX10_weigh 1 = .ok (.iconst 4, 1) := by decide +kernel
theorem dX10_weigh_2 : decode cX10_weigh 2 = .ok (.lconst 1, 1) := by decide +kernel
theorem dX10_weigh_3 : decode cX10_weigh 3 = .ok (.invokevirtual 51, 3) := by decide +kernel
theorem dX10_weigh_6 : decode cX10_weigh 6 = .ok (.iconst 0, 1) := by decide +kernel
theorem dX10_weigh_7 : decode cX10_weigh 7 = .ok (.istore_n 1, 1) := by decide +kernel
theorem dX10_weigh_8 : decode cX10_weigh 8 = .ok (.iload_n 1, 1) := by decide +kernel
theorem dX10_weigh_9 : decode cX10_weigh 9 = .ok (.aload_n 0, 1) := by decide +kernel
theorem dX10_weigh_10 : decode cX10_weigh 10 = .ok (.invokevirtual 109, 3) := by decide +kernel
theorem dX10_weigh_13 : decode cX10_weigh 13 = .ok (.if_icmp .ge 29, 3) := by decide +kernel
theorem dX10_weigh_16 : decode cX10_weigh 16 = .ok (.aload_n 0, 1) := by decide +kernel
theorem dX10_weigh_17 : decode cX10_weigh 17 = .ok (.iconst 4, 1) := by decide +kernel
theorem dX10_weigh_18 : decode cX10_weigh 18 = .ok (.aload_n 0, 1) := by decide +kernel
theorem dX10_weigh_19 : decode cX10_weigh 19 = .ok (.getfield 7, 3) := by decide +kernel
theorem dX10_weigh_22 : decode cX10_weigh 22 = .ok (.bipush 30, 2) := by decide +kernel
theorem dX10_weigh_24 : decode cX10_weigh 24 = .ok (.aload_n 0, 1) := by decide +kernel
theorem dX10_weigh_25 : decode cX10_weigh 25 = .ok (.getfield 42, 3) := by decide +kernel
theorem dX10_weigh_28 : decode cX10_weigh 28 = .ok (.iload_n 1, 1) := by decide +kernel
theorem dX10_weigh_29 : decode cX10_weigh 29 = .ok (.iaload, 1) := by decide +kernel
theorem dX10_weigh_30 : decode cX10_weigh 30 = .ok (.iadd, 1) := by decide +kernel
theorem dX10_weigh_31 : decode cX10_weigh 31 = .ok (.iaload, 1) := by decide +kernel
theorem dX10_weigh_32 : decode cX10_weigh 32 = .ok (.i2l, 1) := by decide +kernel
theorem dX10_weigh_33 : decode cX10_weigh 33 = .ok (.invokevirtual 81, 3) := by decide +kernel
theorem dX10_weigh_36 : decode cX10_weigh 36 = .ok (.iinc 1 1, 3) := by decide +kernel
theorem dX10_weigh_39 : decode cX10_weigh 39 = .ok (.goto (-31), 3) := by decide +kernel
theorem dX10_weigh_42 : decode cX10_weigh 42 = .ok (.aload_n 0, 1) := by decide +kernel
theorem dX10_weigh_43 : decode cX10_weigh 43 = .ok (.invokevirtual 251, 3) := by decide +kernel
theorem dX10_weigh_46 : decode cX10_weigh 46 = .ok (.istore_n 1, 1) := by decide +kernel
theorem dX10_weigh_47 : decode cX10_weigh 47 = .ok (.aload_n 0, 1) := by decide +kernel
theorem dX10_weigh_48 : decode cX10_weigh 48 = .ok (.iconst 4, 1) := by decide +kernel
theorem dX10_weigh_49 : decode cX10_weigh 49 = .ok (.aload_n 0, 1) := by decide +kernel
theorem dX10_weigh_50 : decode cX10_weigh 50 = .ok (.getfield 7, 3) := by decide +kernel
theorem dX10_weigh_53 : decode cX10_weigh 53 = .ok (.bipush 20, 2) := by decide +kernel
theorem dX10_weigh_55 : decode cX10_weigh 55 = .ok (.iaload, 1) := by decide +kernel
theorem dX10_weigh_56 : decode cX10_weigh 56 = .ok (.i2l, 1) := by decide +kernel
theorem dX10_weigh_57 : decode cX10_weigh 57 = .ok (.iload_n 1, 1) := by decide +kernel
theorem dX10_weigh_58 : decode cX10_weigh 58 = .ok (.invokevirtual 244, 3) := by decide +kernel
theorem dX10_weigh_61 : decode cX10_weigh 61 = .ok (.aload_n 0, 1) := by decide +kernel
theorem dX10_weigh_62 : decode cX10_weigh 62 = .ok (.iconst 4, 1) := by decide +kernel
theorem dX10_weigh_63 : decode cX10_weigh 63 = .ok (.ldc2_w 125, 3) := by decide +kernel
theorem dX10_weigh_66 : decode cX10_weigh 66 = .ok (.bipush 60, 2) := by decide +kernel
theorem dX10_weigh_68 : decode cX10_weigh 68 = .ok (.iload_n 1, 1) := by decide +kernel
theorem dX10_weigh_69 : decode cX10_weigh 69 = .ok (.isub, 1) := by decide +kernel
theorem dX10_weigh_70 : decode cX10_weigh 70 = .ok (.invokevirtual 244, 3) := by decide +kernel
theorem dX10_weigh_73 : decode cX10_weigh 73 = .ok (.aload_n 0, 1) := by decide +kernel
theorem dX10_weigh_74 : decode cX10_weigh 74 = .ok (.getfield 7, 3) := by decide +kernel
theorem dX10_weigh_77 : decode cX10_weigh 77 = .ok (.sipush 542, 3) := by decide +kernel
theorem dX10_weigh_80 : decode cX10_weigh 80 = .ok (.iaload, 1) := by decide +kernel
theorem dX10_weigh_81 : decode cX10_weigh 81 = .ok (.iconst 1, 1) := by decide +kernel
theorem dX10_weigh_82 : decode cX10_weigh 82 = .ok (.if_icmp .ne 101, 3) := by decide +kernel
theorem dX10_weigh_85 : decode cX10_weigh 85 = .ok (.aload_n 0, 1) := by decide +kernel
theorem dX10_weigh_86 : decode cX10_weigh 86 = .ok (.invokevirtual 109, 3) := by decide +kernel
theorem dX10_weigh_89 : decode cX10_weigh 89 = .ok (.ifCond .le 94, 3) := by decide +kernel
theorem dX10_weigh_92 : decode cX10_weigh 92 = .ok (.aload_n 0, 1) := by decide +kernel
theorem dX10_weigh_93 : decode cX10_weigh 93 = .ok (.getfield 7, 3) := by decide +kernel
theorem dX10_weigh_96 : decode cX10_weigh 96 = .ok (.bipush 21, 2) := by decide +kernel
theorem dX10_weigh_98 : decode cX10_weigh 98 = .ok (.iaload, 1) := by decide +kernel
theorem dX10_weigh_99 : decode cX10_weigh 99 = .ok (.istore_n 2, 1) := by decide +kernel
theorem dX10_weigh_100 : decode cX10_weigh 100 = .ok (.aload_n 0, 1) := by decide +kernel
theorem dX10_weigh_101 : decode cX10_weigh 101 = .ok (.iconst 4, 1) := by decide +kernel
theorem dX10_weigh_102 : decode cX10_weigh 102 = .ok (.aload_n 0, 1) := by decide +kernel
theorem dX10_weigh_103 : decode cX10_weigh 103 = .ok (.getfield 33, 3) := by decide +kernel
theorem dX10_weigh_106 : decode cX10_weigh 106 = .ok (.aload_n 0, 1) := by decide +kernel
theorem dX10_weigh_107 : decode cX10_weigh 107 = .ok (.getfield 42, 3) := by decide +kernel
theorem dX10_weigh_110 : decode cX10_weigh 110 = .ok (.iconst 0, 1) := by decide +kernel
theorem dX10_weigh_111 : decode cX10_weigh 111 = .ok (.iaload, 1) := by decide +kernel
theorem dX10_weigh_112 : decode cX10_weigh 112 = .ok (.iaload, 1) := by decide +kernel
theorem dX10_weigh_113 : decode cX10_weigh 113 = .ok (.aload_n 0, 1) := by decide +kernel
theorem dX10_weigh_114 : decode cX10_weigh 114 = .ok (.getfield 7, 3) := by decide +kernel
theorem dX10_weigh_117 : decode cX10_weigh 117 = .ok (.sipush 543, 3) := by decide +kernel
theorem dX10_weigh_120 : decode cX10_weigh 120 = .ok (.iaload, 1) := by decide +kernel
theorem dX10_weigh_121 : decode cX10_weigh 121 = .ok (.if_icmp .ne 8, 3) := by decide +kernel
theorem dX10_weigh_124 : decode cX10_weigh 124 = .ok (.iload_n 2, 1) := by decide +kernel
theorem dX10_weigh_125 : decode cX10_weigh 125 = .ok (.i2l, 1) := by decide +kernel
theorem dX10_weigh_126 : decode cX10_weigh 126 = .ok (.goto 8, 3) := by decide +kernel
theorem dX10_weigh_129 : decode cX10_weigh 129 = .ok (.bipush 10, 2) := by decide +kernel
theorem dX10_weigh_131 : decode cX10_weigh 131 = .ok (.iload_n 2, 1) := by decide +kernel
theorem dX10_weigh_132 : decode cX10_weigh 132 = .ok (.isub, 1) := by decide +kernel
theorem dX10_weigh_133 : decode cX10_weigh 133 = .ok (.i2l, 1) := by decide +kernel
theorem dX10_weigh_134 : decode cX10_weigh 134 = .ok (.invokevirtual 81, 3) := by decide +kernel
theorem dX10_weigh_137 : decode cX10_weigh 137 = .ok (.aload_n 0, 1) := by decide +kernel
theorem dX10_weigh_138 : decode cX10_weigh 138 = .ok (.iconst 4, 1) := by decide +kernel
theorem dX10_weigh_139 : decode cX10_weigh 139 = .ok (.aload_n 0, 1) := by decide +kernel
theorem dX10_weigh_140 : decode cX10_weigh 140 = .ok (.getfield 36, 3) := by decide +kernel
theorem dX10_weigh_143 : decode cX10_weigh 143 = .ok (.aload_n 0, 1) := by decide +kernel
theorem dX10_weigh_144 : decode cX10_weigh 144 = .ok (.getfield 42, 3) := by decide +kernel
theorem dX10_weigh_147 : decode cX10_weigh 147 = .ok (.iconst 0, 1) := by decide +kernel
theorem dX10_weigh_148 : decode cX10_weigh 148 = .ok (.iaload, 1) := by decide +kernel
theorem dX10_weigh_149 : decode cX10_weigh 149 = .ok (.baload, 1) := by decide +kernel
theorem dX10_weigh_150 : decode cX10_weigh 150 = .ok (.aload_n 0, 1) := by decide +kernel
theorem dX10_weigh_151 : decode cX10_weigh 151 = .ok (.getfield 7, 3) := by decide +kernel
theorem dX10_weigh_154 : decode cX10_weigh 154 = .ok (.sipush 544, 3) := by decide +kernel
theorem dX10_weigh_157 : decode cX10_weigh 157 = .ok (.iaload, 1) := by decide +kernel
theorem dX10_weigh_158 : decode cX10_weigh 158 = .ok (.iconst 1, 1) := by decide +kernel
theorem dX10_weigh_159 : decode cX10_weigh 159 = .ok (.if_icmp .ne 7, 3) := by decide +kernel
theorem dX10_weigh_162 : decode cX10_weigh 162 = .ok (.iconst 1, 1) := by decide +kernel
theorem dX10_weigh_163 : decode cX10_weigh 163 = .ok (.goto 4, 3) := by decide +kernel
theorem dX10_weigh_166 : decode cX10_weigh 166 = .ok (.iconst 0, 1) := by decide +kernel
theorem dX10_weigh_167 : decode cX10_weigh 167 = .ok (.if_icmp .ne 8, 3) := by decide +kernel
theorem dX10_weigh_170 : decode cX10_weigh 170 = .ok (.iload_n 2, 1) := by decide +kernel
theorem dX10_weigh_171 : decode cX10_weigh 171 = .ok (.i2l, 1) := by decide +kernel
theorem dX10_weigh_172 : decode cX10_weigh 172 = .ok (.goto 8, 3) := by decide +kernel
theorem dX10_weigh_175 : decode cX10_weigh 175 = .ok (.bipush 10, 2) := by decide +kernel
theorem dX10_weigh_177 : decode cX10_weigh 177 = .ok (.iload_n 2, 1) := by decide +kernel
theorem dX10_weigh_178 : decode cX10_weigh 178 = .ok (.isub, 1) := by decide +kernel
theorem dX10_weigh_179 : decode cX10_weigh 179 = .ok (.i2l, 1) := by decide +kernel
theorem dX10_weigh_180 : decode cX10_weigh 180 = .ok (.invokevirtual 81, 3) := by decide +kernel
theorem dX10_weigh_183 : decode cX10_weigh 183 = .ok (.iconst 0, 1) := by decide +kernel
theorem dX10_weigh_184 : decode cX10_weigh 184 = .ok (.istore_n 2, 1) := by decide +kernel
theorem dX10_weigh_185 : decode cX10_weigh 185 = .ok (.iload_n 2, 1) := by decide +kernel
theorem dX10_weigh_186 : decode cX10_weigh 186 = .ok (.aload_n 0, 1) := by decide +kernel
theorem dX10_weigh_187 : decode cX10_weigh 187 = .ok (.invokevirtual 229, 3) := by decide +kernel
theorem dX10_weigh_190 : decode cX10_weigh 190 = .ok (.if_icmp .ge 59, 3) := by decide +kernel
theorem dX10_weigh_193 : decode cX10_weigh 193 = .ok (.aload_n 0, 1) := by decide +kernel
theorem dX10_weigh_194 : decode cX10_weigh 194 = .ok (.getfield 7, 3) := by decide +kernel
theorem dX10_weigh_197 : decode cX10_weigh 197 = .ok (.sipush 545, 3) := by decide +kernel
theorem dX10_weigh_200 : decode cX10_weigh 200 = .ok (.iconst 5, 1) := by decide +kernel
theorem dX10_weigh_201 : decode cX10_weigh 201 = .ok (.iload_n 2, 1) := by decide +kernel
theorem dX10_weigh_202 : decode cX10_weigh 202 = .ok (.imul, 1) := by decide +kernel
theorem dX10_weigh_203 : decode cX10_weigh 203 = .ok (.iadd, 1) := by decide +kernel
theorem dX10_weigh_204 : decode cX10_weigh 204 = .ok (.iconst 4, 1) := by decide +kernel
theorem dX10_weigh_205 : decode cX10_weigh 205 = .ok (.iadd, 1) := by decide +kernel
theorem dX10_weigh_206 : decode cX10_weigh 206 = .ok (.iaload, 1) := by decide +kernel
theorem dX10_weigh_207 : decode cX10_weigh 207 = .ok (.istore_n 3, 1) := by decide +kernel
theorem dX10_weigh_208 : decode cX10_weigh 208 = .ok (.aload_n 0, 1) := by decide +kernel
theorem dX10_weigh_209 : decode cX10_weigh 209 = .ok (.iconst 4, 1) := by decide +kernel
theorem dX10_weigh_210 : decode cX10_weigh 210 = .ok (.aload_n 0, 1) := by decide +kernel
theorem dX10_weigh_211 : decode cX10_weigh 211 = .ok (.iload_n 2, 1) := by decide +kernel
theorem dX10_weigh_212 : decode cX10_weigh 212 = .ok (.invokevirtual 254, 3) := by decide +kernel
theorem dX10_weigh_215 : decode cX10_weigh 215 = .ok (.ifCond .ne 7, 3) := by decide +kernel
theorem dX10_weigh_218 : decode cX10_weigh 218 = .ok (.lconst 1, 1) := by decide +kernel
theorem dX10_weigh_219 : decode cX10_weigh 219 = .ok (.goto 21, 3) := by decide +kernel
theorem dX10_weigh_222 : decode cX10_weigh 222 = .ok (.aload_n 0, 1) := by decide +kernel
theorem dX10_weigh_223 : decode cX10_weigh 223 = .ok (.iload_n 2, 1) := by decide +kernel
theorem dX10_weigh_224 : decode cX10_weigh 224 = .ok (.invokevirtual 257, 3) := by decide +kernel
theorem dX10_weigh_227 : decode cX10_weigh 227 = .ok (.ifCond .eq 8, 3) := by decide +kernel
theorem dX10_weigh_230 : decode cX10_weigh 230 = .ok (.iload_n 3, 1) := by decide +kernel
theorem dX10_weigh_231 : decode cX10_weigh 231 = .ok (.i2l, 1) := by decide +kernel
theorem dX10_weigh_232 : decode cX10_weigh 232 = .ok (.goto 8, 3) := by decide +kernel
theorem dX10_weigh_235 : decode cX10_weigh 235 = .ok (.bipush 10, 2) := by decide +kernel
theorem dX10_weigh_237 : decode cX10_weigh 237 = .ok (.iload_n 3, 1) := by decide +kernel
theorem dX10_weigh_238 : decode cX10_weigh 238 = .ok (.isub, 1) := by decide +kernel
theorem dX10_weigh_239 : decode cX10_weigh 239 = .ok (.i2l, 1) := by decide +kernel
theorem dX10_weigh_240 : decode cX10_weigh 240 = .ok (.invokevirtual 81, 3) := by decide +kernel
theorem dX10_weigh_243 : decode cX10_weigh 243 = .ok (.iinc 2 1, 3) := by decide +kernel
theorem dX10_weigh_246 : decode cX10_weigh 246 = .ok (.goto (-61), 3) := by decide +kernel
theorem dX10_weigh_249 : decode cX10_weigh 249 = .ok (.iconst 0, 1) := by decide +kernel
theorem dX10_weigh_250 : decode cX10_weigh 250 = .ok (.istore_n 2, 1) := by decide +kernel
theorem dX10_weigh_251 : decode cX10_weigh 251 = .ok (.iload_n 2, 1) := by decide +kernel
theorem dX10_weigh_252 : decode cX10_weigh 252 = .ok (.aload_n 0, 1) := by decide +kernel
theorem dX10_weigh_253 : decode cX10_weigh 253 = .ok (.invokevirtual 215, 3) := by decide +kernel
theorem dX10_weigh_256 : decode cX10_weigh 256 = .ok (.if_icmp .ge 28, 3) := by decide +kernel
theorem dX10_weigh_259 : decode cX10_weigh 259 = .ok (.aload_n 0, 1) := by decide +kernel
theorem dX10_weigh_260 : decode cX10_weigh 260 = .ok (.iload_n 2, 1) := by decide +kernel
theorem dX10_weigh_261 : decode cX10_weigh 261 = .ok (.invokevirtual 260, 3) := by decide +kernel
theorem dX10_weigh_264 : decode cX10_weigh 264 = .ok (.aload_n 0, 1) := by decide +kernel
theorem dX10_weigh_265 : decode cX10_weigh 265 = .ok (.iconst 2, 1) := by decide +kernel
theorem dX10_weigh_266 : decode cX10_weigh 266 = .ok (.iconst 4, 1) := by decide +kernel
theorem dX10_weigh_267 : decode cX10_weigh 267 = .ok (.bipush 11, 2) := by decide +kernel
theorem dX10_weigh_269 : decode cX10_weigh 269 = .ok (.invokevirtual 263, 3) := by decide +kernel
theorem dX10_weigh_272 : decode cX10_weigh 272 = .ok (.aload_n 0, 1) := by decide +kernel
theorem dX10_weigh_273 : decode cX10_weigh 273 = .ok (.iconst 4, 1) := by decide +kernel
theorem dX10_weigh_274 : decode cX10_weigh 274 = .ok (.iconst 2, 1) := by decide +kernel
theorem dX10_weigh_275 : decode cX10_weigh 275 = .ok (.invokevirtual 63, 3) := by decide +kernel
theorem dX10_weigh_278 : decode cX10_weigh 278 = .ok (.iinc 2 1, 3) := by decide +kernel
theorem dX10_weigh_281 : decode cX10_weigh 281 = .ok (.goto (-30), 3) := by decide +kernel
theorem dX10_weigh_284 : decode cX10_weigh 284 = .ok (.return_, 1) := by decide +kernel
theorem dX10_worlds_0 : decode cX10_worlds 0 = .ok (.iconst 1, 1) := by decide +kernel
theorem dX10_worlds_1 : decode cX10_worlds 1 = .ok (.istore_n 1, 1) := by decide +kernel
theorem dX10_worlds_2 : decode cX10_worlds 2 = .ok (.iconst 0, 1) := by decide +kernel
theorem dX10_worlds_3 : decode cX10_worlds 3 = .ok (.istore_n 2, 1) := by decide +kernel
theorem dX10_worlds_4 : decode cX10_worlds 4 = .ok (.iload_n 2, 1) := by decide +kernel
theorem dX10_worlds_5 : decode cX10_worlds 5 = .ok (.aload_n 0, 1) := by decide +kernel
theorem dX10_worlds_6 : decode cX10_worlds 6 = .ok (.invokevirtual 109, 3) := by decide +kernel
theorem dX10_worlds_9 : decode cX10_worlds 9 = .ok (.if_icmp .ge 13, 3) := by decide +kernel
theorem dX10_worlds_12 : decode cX10_worlds 12 = .ok (.iload_n 1, 1) := by decide +kernel
theorem dX10_worlds_13 : decode cX10_worlds 13 = .ok (.iconst 4, 1) := by decide +kernel
theorem dX10_worlds_14 : decode cX10_worlds 14 = .ok (.imul, 1) := by decide +kernel
theorem dX10_worlds_15 : decode cX10_worlds 15 = .ok (.istore_n 1, 1) := by decide +kernel
theorem dX10_worlds_16 : decode cX10_worlds 16 = .ok (.iinc 2 1, 3) := by decide +kernel
theorem dX10_worlds_19 : decode cX10_worlds 19 = .ok (.goto (-15), 3) := by decide +kernel
theorem dX10_worlds_22 : decode cX10_worlds 22 = .ok (.iload_n 1, 1) := by decide +kernel
theorem dX10_worlds_23 : decode cX10_worlds 23 = .ok (.ireturn, 1) := by decide +kernel
theorem dX10_laysWorld_0 : decode cX10_laysWorld 0 = .ok (.iload_n 1, 1) := by decide +kernel
theorem dX10_laysWorld_1 : decode cX10_laysWorld 1 = .ok (.istore_n 2, 1) := by decide +kernel
theorem dX10_laysWorld_2 : decode cX10_laysWorld 2 = .ok (.iconst 1, 1) := by decide +kernel
theorem dX10_laysWorld_3 : decode cX10_laysWorld 3 = .ok (.istore_n 3, 1) := by decide +kernel
theorem dX10_laysWorld_4 : decode cX10_laysWorld 4 = .ok (.iconst 0, 1) := by decide +kernel
theorem dX10_laysWorld_5 : decode cX10_laysWorld 5 = .ok (.istore 4, 2) := by decide +kernel
theorem dX10_laysWorld_7 : decode cX10_laysWorld 7 = .ok (.iload 4, 2) := by decide +kernel
theorem dX10_laysWorld_9 : decode cX10_laysWorld 9 = .ok (.aload_n 0, 1) := by decide +kernel
theorem dX10_laysWorld_10 : decode cX10_laysWorld 10 = .ok (.invokevirtual 109, 3) := by decide +kernel
theorem dX10_laysWorld_13 : decode cX10_laysWorld 13 = .ok (.if_icmp .ge 48, 3) := by decide +kernel
theorem dX10_laysWorld_16 : decode cX10_laysWorld 16 = .ok (.aload_n 0, 1) := by decide +kernel
theorem dX10_laysWorld_17 : decode cX10_laysWorld 17 = .ok (.getfield 42, 3) := by decide +kernel
theorem dX10_laysWorld_20 : decode cX10_laysWorld 20 = .ok (.iload 4, 2) := by decide +kernel
theorem dX10_laysWorld_22 : decode cX10_laysWorld 22 = .ok (.iload_n 2, 1) := by decide +kernel
theorem dX10_laysWorld_23 : decode cX10_laysWorld 23 = .ok (.iconst 4, 1) := by decide +kernel
theorem dX10_laysWorld_24 : decode cX10_laysWorld 24 = .ok (.irem, 1) := by decide +kernel
theorem dX10_laysWorld_25 : decode cX10_laysWorld 25 = .ok (.iastore, 1) := by decide +kernel
theorem dX10_laysWorld_26 : decode cX10_laysWorld 26 = .ok (.iload_n 2, 1) := by decide +kernel
theorem dX10_laysWorld_27 : decode cX10_laysWorld 27 = .ok (.iconst 4, 1) := by decide +kernel
theorem dX10_laysWorld_28 : decode cX10_laysWorld 28 = .ok (.idiv, 1) := by decide +kernel
theorem dX10_laysWorld_29 : decode cX10_laysWorld 29 = .ok (.istore_n 2, 1) := by decide +kernel
theorem dX10_laysWorld_30 : decode cX10_laysWorld 30 = .ok (.iload_n 3, 1) := by decide +kernel
theorem dX10_laysWorld_31 : decode cX10_laysWorld 31 = .ok (.ifCond .eq 22, 3) := by decide +kernel
theorem dX10_laysWorld_34 : decode cX10_laysWorld 34 = .ok (.aload_n 0, 1) := by decide +kernel
theorem dX10_laysWorld_35 : decode cX10_laysWorld 35 = .ok (.getfield 39, 3) := by decide +kernel
theorem dX10_laysWorld_38 : decode cX10_laysWorld 38 = .ok (.aload_n 0, 1) := by decide +kernel
theorem dX10_laysWorld_39 : decode cX10_laysWorld 39 = .ok (.getfield 42, 3) := by decide +kernel
theorem dX10_laysWorld_42 : decode cX10_laysWorld 42 = .ok (.iload 4, 2) := by decide +kernel
theorem dX10_laysWorld_44 : decode cX10_laysWorld 44 = .ok (.iaload, 1) := by decide +kernel
theorem dX10_laysWorld_45 : decode cX10_laysWorld 45 = .ok (.baload, 1) := by decide +kernel
theorem dX10_laysWorld_46 : decode cX10_laysWorld 46 = .ok (.ifCond .eq 7, 3) := by decide +kernel
theorem dX10_laysWorld_49 : decode cX10_laysWorld 49 = .ok (.iconst 1, 1) := by decide +kernel
theorem dX10_laysWorld_50 : decode cX10_laysWorld 50 = .ok (.goto 4, 3) := by decide +kernel
theorem dX10_laysWorld_53 : decode cX10_laysWorld 53 = .ok (.iconst 0, 1) := by decide +kernel
theorem dX10_laysWorld_54 : decode cX10_laysWorld 54 = .ok (.istore_n 3, 1) := by decide +kernel
theorem dX10_laysWorld_55 : decode cX10_laysWorld 55 = .ok (.iinc 4 1, 3) := by decide +kernel
theorem dX10_laysWorld_58 : decode cX10_laysWorld 58 = .ok (.goto (-51), 3) := by decide +kernel
theorem dX10_laysWorld_61 : decode cX10_laysWorld 61 = .ok (.iload_n 3, 1) := by decide +kernel
theorem dX10_laysWorld_62 : decode cX10_laysWorld 62 = .ok (.ireturn, 1) := by decide +kernel
theorem dX10_holds_0 : decode cX10_holds 0 = .ok (.iload_n 1, 1) := by decide +kernel
theorem dX10_holds_1 : decode cX10_holds 1 = .ok (.ifCond .ne 19, 3) := by decide +kernel
theorem dX10_holds_4 : decode cX10_holds 4 = .ok (.aload_n 0, 1) := by decide +kernel
theorem dX10_holds_5 : decode cX10_holds 5 = .ok (.getfield 42, 3) := by decide +kernel
theorem dX10_holds_8 : decode cX10_holds 8 = .ok (.iload_n 2, 1) := by decide +kernel
theorem dX10_holds_9 : decode cX10_holds 9 = .ok (.iaload, 1) := by decide +kernel
theorem dX10_holds_10 : decode cX10_holds 10 = .ok (.iload_n 3, 1) := by decide +kernel
theorem dX10_holds_11 : decode cX10_holds 11 = .ok (.if_icmp .ne 7, 3) := by decide +kernel
theorem dX10_holds_14 : decode cX10_holds 14 = .ok (.iconst 1, 1) := by decide +kernel
theorem dX10_holds_15 : decode cX10_holds 15 = .ok (.goto 4, 3) := by decide +kernel
theorem dX10_holds_18 : decode cX10_holds 18 = .ok (.iconst 0, 1) := by decide +kernel
theorem dX10_holds_19 : decode cX10_holds 19 = .ok (.ireturn, 1) := by decide +kernel
theorem dX10_holds_20 : decode cX10_holds 20 = .ok (.iload_n 1, 1) := by decide +kernel
theorem dX10_holds_21 : decode cX10_holds 21 = .ok (.iconst 2, 1) := by decide +kernel
theorem dX10_holds_22 : decode cX10_holds 22 = .ok (.if_icmp .ne 20, 3) := by decide +kernel
theorem dX10_holds_25 : decode cX10_holds 25 = .ok (.aload_n 0, 1) := by decide +kernel
theorem dX10_holds_26 : decode cX10_holds 26 = .ok (.iload_n 2, 1) := by decide +kernel
theorem dX10_holds_27 : decode cX10_holds 27 = .ok (.iload_n 3, 1) := by decide +kernel
theorem dX10_holds_28 : decode cX10_holds 28 = .ok (.invokevirtual 232, 3) := by decide +kernel
theorem dX10_holds_31 : decode cX10_holds 31 = .ok (.iload 4, 2) := by decide +kernel
theorem dX10_holds_33 : decode cX10_holds 33 = .ok (.if_icmp .ne 7, 3) := by decide +kernel
theorem dX10_holds_36 : decode cX10_holds 36 = .ok (.iconst 1, 1) := by decide +kernel
theorem dX10_holds_37 : decode cX10_holds 37 = .ok (.goto 4, 3) := by decide +kernel
theorem dX10_holds_40 : decode cX10_holds 40 = .ok (.iconst 0, 1) := by decide +kernel
theorem dX10_holds_41 : decode cX10_holds 41 = .ok (.ireturn, 1) := by decide +kernel
theorem dX10_holds_42 : decode cX10_holds 42 = .ok (.iload_n 1, 1) := by decide +kernel
theorem dX10_holds_43 : decode cX10_holds 43 = .ok (.iconst 3, 1) := by decide +kernel
theorem dX10_holds_44 : decode cX10_holds 44 = .ok (.if_icmp .ne 9, 3) := by decide +kernel
theorem dX10_holds_47 : decode cX10_holds 47 = .ok (.aload_n 0, 1) := by decide +kernel
theorem dX10_holds_48 : decode cX10_holds 48 = .ok (.iload_n 2, 1) := by decide +kernel
theorem dX10_holds_49 : decode cX10_holds 49 = .ok (.invokevirtual 257, 3) := by decide +kernel
theorem dX10_holds_52 : decode cX10_holds 52 = .ok (.ireturn, 1) := by decide +kernel
theorem dX10_holds_53 : decode cX10_holds 53 = .ok (.aload_n 0, 1) := by decide +kernel
theorem dX10_holds_54 : decode cX10_holds 54 = .ok (.getfield 39, 3) := by decide +kernel
theorem dX10_holds_57 : decode cX10_holds 57 = .ok (.iload_n 2, 1) := by decide +kernel
theorem dX10_holds_58 : decode cX10_holds 58 = .ok (.baload, 1) := by decide +kernel
theorem dX10_holds_59 : decode cX10_holds 59 = .ok (.istore 5, 2) := by decide +kernel
theorem dX10_holds_61 : decode cX10_holds 61 = .ok (.iconst 0, 1) := by decide +kernel
theorem dX10_holds_62 : decode cX10_holds 62 = .ok (.istore 6, 2) := by decide +kernel
theorem dX10_holds_64 : decode cX10_holds 64 = .ok (.iload 6, 2) := by decide +kernel
theorem dX10_holds_66 : decode cX10_holds 66 = .ok (.aload_n 0, 1) := by decide +kernel
theorem dX10_holds_67 : decode cX10_holds 67 = .ok (.invokevirtual 109, 3) := by decide +kernel
theorem dX10_holds_70 : decode cX10_holds 70 = .ok (.if_icmp .ge 32, 3) := by decide +kernel
theorem dX10_holds_73 : decode cX10_holds 73 = .ok (.iload 5, 2) := by decide +kernel
theorem dX10_holds_75 : decode cX10_holds 75 = .ok (.ifCond .eq 18, 3) := by decide +kernel
theorem dX10_holds_78 : decode cX10_holds 78 = .ok (.aload_n 0, 1) := by decide +kernel
theorem dX10_holds_79 : decode cX10_holds 79 = .ok (.getfield 42, 3) := by decide +kernel
theorem dX10_holds_82 : decode cX10_holds 82 = .ok (.iload 6, 2) := by decide +kernel
theorem dX10_holds_84 : decode cX10_holds 84 = .ok (.iaload, 1) := by decide +kernel
theorem dX10_holds_85 : decode cX10_holds 85 = .ok (.iload_n 2, 1) := by decide +kernel
theorem dX10_holds_86 : decode cX10_holds 86 = .ok (.if_icmp .ne 7, 3) := by decide +kernel
theorem dX10_holds_89 : decode cX10_holds 89 = .ok (.iconst 1, 1) := by decide +kernel
theorem dX10_holds_90 : decode cX10_holds 90 = .ok (.goto 4, 3) := by decide +kernel
theorem dX10_holds_93 : decode cX10_holds 93 = .ok (.iconst 0, 1) := by decide +kernel
theorem dX10_holds_94 : decode cX10_holds 94 = .ok (.istore 5, 2) := by decide +kernel
theorem dX10_holds_96 : decode cX10_holds 96 = .ok (.iinc 6 1, 3) := by decide +kernel
theorem dX10_holds_99 : decode cX10_holds 99 = .ok (.goto (-35), 3) := by decide +kernel
theorem dX10_holds_102 : decode cX10_holds 102 = .ok (.iload 5, 2) := by decide +kernel
theorem dX10_holds_104 : decode cX10_holds 104 = .ok (.ireturn, 1) := by decide +kernel
theorem dX10_sumsUp_0 : decode cX10_sumsUp 0 = .ok (.aload_n 0, 1) := by decide +kernel
theorem dX10_sumsUp_1 : decode cX10_sumsUp 1 = .ok (.invokevirtual 267, 3) := by decide +kernel
theorem dX10_sumsUp_4 : decode cX10_sumsUp 4 = .ok (.aload_n 0, 1) := by decide +kernel
theorem dX10_sumsUp_5 : decode cX10_sumsUp 5 = .ok (.iconst 5, 1) := by decide +kernel
theorem dX10_sumsUp_6 : decode cX10_sumsUp 6 = .ok (.lconst 0, 1) := by decide +kernel
theorem dX10_sumsUp_7 : decode cX10_sumsUp 7 = .ok (.invokevirtual 51, 3) := by decide +kernel
theorem dX10_sumsUp_10 : decode cX10_sumsUp 10 = .ok (.aload_n 0, 1) := by decide +kernel
theorem dX10_sumsUp_11 : decode cX10_sumsUp 11 = .ok (.bipush 6, 2) := by decide +kernel
theorem dX10_sumsUp_13 : decode cX10_sumsUp 13 = .ok (.lconst 0, 1) := by decide +kernel
theorem dX10_sumsUp_14 : decode cX10_sumsUp 14 = .ok (.invokevirtual 51, 3) := by decide +kernel
theorem dX10_sumsUp_17 : decode cX10_sumsUp 17 = .ok (.iconst 0, 1) := by decide +kernel
theorem dX10_sumsUp_18 : decode cX10_sumsUp 18 = .ok (.istore 5, 2) := by decide +kernel
theorem dX10_sumsUp_20 : decode cX10_sumsUp 20 = .ok (.iload 5, 2) := by decide +kernel
theorem dX10_sumsUp_22 : decode cX10_sumsUp 22 = .ok (.aload_n 0, 1) := by decide +kernel
theorem dX10_sumsUp_23 : decode cX10_sumsUp 23 = .ok (.invokevirtual 270, 3) := by decide +kernel
theorem dX10_sumsUp_26 : decode cX10_sumsUp 26 = .ok (.if_icmp .ge 54, 3) := by decide +kernel
theorem dX10_sumsUp_29 : decode cX10_sumsUp 29 = .ok (.aload_n 0, 1) := by decide +kernel
theorem dX10_sumsUp_30 : decode cX10_sumsUp 30 = .ok (.invokevirtual 101, 3) := by decide +kernel
theorem dX10_sumsUp_33 : decode cX10_sumsUp 33 = .ok (.ifCond .le 47, 3) := by decide +kernel
theorem dX10_sumsUp_36 : decode cX10_sumsUp 36 = .ok (.aload_n 0, 1) := by decide +kernel
theorem dX10_sumsUp_37 : decode cX10_sumsUp 37 = .ok (.iload 5, 2) := by decide +kernel
theorem dX10_sumsUp_39 : decode cX10_sumsUp 39 = .ok (.invokevirtual 273, 3) := by decide +kernel
theorem dX10_sumsUp_42 : decode cX10_sumsUp 42 = .ok (.ifCond .eq 32, 3) := by decide +kernel
theorem dX10_sumsUp_45 : decode cX10_sumsUp 45 = .ok (.aload_n 0, 1) := by decide +kernel
theorem dX10_sumsUp_46 : decode cX10_sumsUp 46 = .ok (.invokevirtual 276, 3) := by decide +kernel
theorem dX10_sumsUp_49 : decode cX10_sumsUp 49 = .ok (.aload_n 0, 1) := by decide +kernel
theorem dX10_sumsUp_50 : decode cX10_sumsUp 50 = .ok (.iconst 5, 1) := by decide +kernel
theorem dX10_sumsUp_51 : decode cX10_sumsUp 51 = .ok (.iconst 4, 1) := by decide +kernel
theorem dX10_sumsUp_52 : decode cX10_sumsUp 52 = .ok (.invokevirtual 248, 3) := by decide +kernel
theorem dX10_sumsUp_55 : decode cX10_sumsUp 55 = .ok (.aload_n 0, 1) := by decide +kernel
theorem dX10_sumsUp_56 : decode cX10_sumsUp 56 = .ok (.iload_n 1, 1) := by decide +kernel
theorem dX10_sumsUp_57 : decode cX10_sumsUp 57 = .ok (.iload_n 2, 1) := by decide +kernel
theorem dX10_sumsUp_58 : decode cX10_sumsUp 58 = .ok (.iload_n 3, 1) := by decide +kernel
theorem dX10_sumsUp_59 : decode cX10_sumsUp 59 = .ok (.iload 4, 2) := by decide +kernel
theorem dX10_sumsUp_61 : decode cX10_sumsUp 61 = .ok (.invokevirtual 279, 3) := by decide +kernel
theorem dX10_sumsUp_64 : decode cX10_sumsUp 64 = .ok (.ifCond .eq 10, 3) := by decide +kernel
theorem dX10_sumsUp_67 : decode cX10_sumsUp 67 = .ok (.aload_n 0, 1) := by decide +kernel
theorem dX10_sumsUp_68 : decode cX10_sumsUp 68 = .ok (.bipush 6, 2) := by decide +kernel
theorem dX10_sumsUp_70 : decode cX10_sumsUp 70 = .ok (.iconst 4, 1) := by decide +kernel
theorem dX10_sumsUp_71 : decode cX10_sumsUp 71 = .ok (.invokevirtual 248, 3) := by decide +kernel
theorem dX10_sumsUp_74 : decode cX10_sumsUp 74 = .ok (.iinc 5 1, 3) := by decide +kernel
theorem dX10_sumsUp_77 : decode cX10_sumsUp 77 = .ok (.goto (-57), 3) := by decide +kernel
theorem dX10_sumsUp_80 : decode cX10_sumsUp 80 = .ok (.aload_n 0, 1) := by decide +kernel
theorem dX10_sumsUp_81 : decode cX10_sumsUp 81 = .ok (.getfield 27, 3) := by decide +kernel
theorem dX10_sumsUp_84 : decode cX10_sumsUp 84 = .ok (.iconst 5, 1) := by decide +kernel
theorem dX10_sumsUp_85 : decode cX10_sumsUp 85 = .ok (.iaload, 1) := by decide +kernel
theorem dX10_sumsUp_86 : decode cX10_sumsUp 86 = .ok (.ifCond .le 7, 3) := by decide +kernel
theorem dX10_sumsUp_89 : decode cX10_sumsUp 89 = .ok (.iconst 1, 1) := by decide +kernel
theorem dX10_sumsUp_90 : decode cX10_sumsUp 90 = .ok (.goto 4, 3) := by decide +kernel
theorem dX10_sumsUp_93 : decode cX10_sumsUp 93 = .ok (.iconst 0, 1) := by decide +kernel
theorem dX10_sumsUp_94 : decode cX10_sumsUp 94 = .ok (.ireturn, 1) := by decide +kernel
theorem dX10_tellsShare_0 : decode cX10_tellsShare 0 = .ok (.aload_n 0, 1) := by decide +kernel
theorem dX10_tellsShare_1 : decode cX10_tellsShare 1 = .ok (.iload_n 1, 1) := by decide +kernel
theorem dX10_tellsShare_2 : decode cX10_tellsShare 2 = .ok (.iload_n 2, 1) := by decide +kernel
theorem dX10_tellsShare_3 : decode cX10_tellsShare 3 = .ok (.iload_n 3, 1) := by decide +kernel
theorem dX10_tellsShare_4 : decode cX10_tellsShare 4 = .ok (.iload 4, 2) := by decide +kernel
theorem dX10_tellsShare_6 : decode cX10_tellsShare 6 = .ok (.invokevirtual 283, 3) := by decide +kernel
theorem dX10_tellsShare_9 : decode cX10_tellsShare 9 = .ok (.ifCond .ne 8, 3) := by decide +kernel
theorem dX10_tellsShare_12 : decode cX10_tellsShare 12 = .ok (.aload_n 0, 1) := by decide +kernel
theorem dX10_tellsShare_13 : decode cX10_tellsShare 13 = .ok (.invokevirtual 286, 3) := by decide +kernel
theorem dX10_tellsShare_16 : decode cX10_tellsShare 16 = .ok (.ireturn, 1) := by decide +kernel
theorem dX10_tellsShare_17 : decode cX10_tellsShare 17 = .ok (.aload_n 0, 1) := by decide +kernel
theorem dX10_tellsShare_18 : decode cX10_tellsShare 18 = .ok (.bipush 6, 2) := by decide +kernel
theorem dX10_tellsShare_20 : decode cX10_tellsShare 20 = .ok (.iconst 5, 1) := by decide +kernel
theorem dX10_tellsShare_21 : decode cX10_tellsShare 21 = .ok (.iconst 0, 1) := by decide +kernel
theorem dX10_tellsShare_22 : decode cX10_tellsShare 22 = .ok (.invokevirtual 97, 3) := by decide +kernel
theorem dX10_tellsShare_25 : decode cX10_tellsShare 25 = .ok (.iconst 1, 1) := by decide +kernel
theorem dX10_tellsShare_26 : decode cX10_tellsShare 26 = .ok (.ireturn, 1) := by decide +kernel
theorem dX10_laysOne_0 : decode cX10_laysOne 0 = .ok (.aload_n 0, 1) := by decide +kernel
theorem dX10_laysOne_1 : decode cX10_laysOne 1 = .ok (.invokevirtual 267, 3) := by decide +kernel
theorem dX10_laysOne_4 : decode cX10_laysOne 4 = .ok (.iconst 0, 1) := by decide +kernel
theorem dX10_laysOne_5 : decode cX10_laysOne 5 = .ok (.istore_n 2, 1) := by decide +kernel
theorem dX10_laysOne_6 : decode cX10_laysOne 6 = .ok (.iload_n 2, 1) := by decide +kernel
theorem dX10_laysOne_7 : decode cX10_laysOne 7 = .ok (.iconst 4, 1) := by decide +kernel
theorem dX10_laysOne_8 : decode cX10_laysOne 8 = .ok (.if_icmp .ge 16, 3) := by decide +kernel
theorem dX10_laysOne_11 : decode cX10_laysOne 11 = .ok (.aload_n 0, 1) := by decide +kernel
theorem dX10_laysOne_12 : decode cX10_laysOne 12 = .ok (.getfield 42, 3) := by decide +kernel
theorem dX10_laysOne_15 : decode cX10_laysOne 15 = .ok (.iload_n 2, 1) := by decide +kernel
theorem dX10_laysOne_16 : decode cX10_laysOne 16 = .ok (.iload_n 1, 1) := by decide +kernel
theorem dX10_laysOne_17 : decode cX10_laysOne 17 = .ok (.iastore, 1) := by decide +kernel
theorem dX10_laysOne_18 : decode cX10_laysOne 18 = .ok (.iinc 2 1, 3) := by decide +kernel
theorem dX10_laysOne_21 : decode cX10_laysOne 21 = .ok (.goto (-15), 3) := by decide +kernel
theorem dX10_laysOne_24 : decode cX10_laysOne 24 = .ok (.aload_n 0, 1) := by decide +kernel
theorem dX10_laysOne_25 : decode cX10_laysOne 25 = .ok (.getfield 39, 3) := by decide +kernel
theorem dX10_laysOne_28 : decode cX10_laysOne 28 = .ok (.iload_n 1, 1) := by decide +kernel
theorem dX10_laysOne_29 : decode cX10_laysOne 29 = .ok (.baload, 1) := by decide +kernel
theorem dX10_laysOne_30 : decode cX10_laysOne 30 = .ok (.ifCond .eq 14, 3) := by decide +kernel
theorem dX10_laysOne_33 : decode cX10_laysOne 33 = .ok (.aload_n 0, 1) := by decide +kernel
theorem dX10_laysOne_34 : decode cX10_laysOne 34 = .ok (.invokevirtual 101, 3) := by decide +kernel
theorem dX10_laysOne_37 : decode cX10_laysOne 37 = .ok (.ifCond .le 7, 3) := by decide +kernel
theorem dX10_laysOne_40 : decode cX10_laysOne 40 = .ok (.iconst 1, 1) := by decide +kernel
theorem dX10_laysOne_41 : decode cX10_laysOne 41 = .ok (.goto 4, 3) := by decide +kernel
theorem dX10_laysOne_44 : decode cX10_laysOne 44 = .ok (.iconst 0, 1) := by decide +kernel
theorem dX10_laysOne_45 : decode cX10_laysOne 45 = .ok (.ireturn, 1) := by decide +kernel
theorem dX10_at_0 : decode cX10_at 0 = .ok (.iload_n 1, 1) := by decide +kernel
theorem dX10_at_1 : decode cX10_at 1 = .ok (.invokestatic 129, 3) := by decide +kernel
theorem dX10_at_4 : decode cX10_at 4 = .ok (.ifCond .eq 10, 3) := by decide +kernel
theorem dX10_at_7 : decode cX10_at 7 = .ok (.iload_n 2, 1) := by decide +kernel
theorem dX10_at_8 : decode cX10_at 8 = .ok (.invokestatic 223, 3) := by decide +kernel
theorem dX10_at_11 : decode cX10_at 11 = .ok (.ifCond .ne 10, 3) := by decide +kernel
theorem dX10_at_14 : decode cX10_at 14 = .ok (.aload_n 0, 1) := by decide +kernel
theorem dX10_at_15 : decode cX10_at 15 = .ok (.bipush (-2), 2) := by decide +kernel
theorem dX10_at_17 : decode cX10_at 17 = .ok (.invokevirtual 118, 3) := by decide +kernel
theorem dX10_at_20 : decode cX10_at 20 = .ok (.ireturn, 1) := by decide +kernel
theorem dX10_at_21 : decode cX10_at 21 = .ok (.aload_n 0, 1) := by decide +kernel
theorem dX10_at_22 : decode cX10_at 22 = .ok (.iload_n 1, 1) := by decide +kernel
theorem dX10_at_23 : decode cX10_at 23 = .ok (.invokevirtual 289, 3) := by decide +kernel
theorem dX10_at_26 : decode cX10_at 26 = .ok (.ifCond .eq 17, 3) := by decide +kernel
theorem dX10_at_29 : decode cX10_at 29 = .ok (.aload_n 0, 1) := by decide +kernel
theorem dX10_at_30 : decode cX10_at 30 = .ok (.getfield 30, 3) := by decide +kernel
theorem dX10_at_33 : decode cX10_at 33 = .ok (.bipush 120, 2) := by decide +kernel
theorem dX10_at_35 : decode cX10_at 35 = .ok (.iload_n 1, 1) := by decide +kernel
theorem dX10_at_36 : decode cX10_at 36 = .ok (.imul, 1) := by decide +kernel
theorem dX10_at_37 : decode cX10_at 37 = .ok (.iload_n 2, 1) := by decide +kernel
theorem dX10_at_38 : decode cX10_at 38 = .ok (.iadd, 1) := by decide +kernel
theorem dX10_at_39 : decode cX10_at 39 = .ok (.iaload, 1) := by decide +kernel
theorem dX10_at_40 : decode cX10_at 40 = .ok (.goto 7, 3) := by decide +kernel
theorem dX10_at_43 : decode cX10_at 43 = .ok (.aload_n 0, 1) := by decide +kernel
theorem dX10_at_44 : decode cX10_at 44 = .ok (.invokevirtual 286, 3) := by decide +kernel
theorem dX10_at_47 : decode cX10_at 47 = .ok (.ireturn, 1) := by decide +kernel
theorem dX10_must_0 : decode cX10_must 0 = .ok (.iload_n 1, 1) := by decide +kernel
theorem dX10_must_1 : decode cX10_must 1 = .ok (.invokestatic 129, 3) := by decide +kernel
theorem dX10_must_4 : decode cX10_must 4 = .ok (.ifCond .eq 18, 3) := by decide +kernel
theorem dX10_must_7 : decode cX10_must 7 = .ok (.aload_n 0, 1) := by decide +kernel
theorem dX10_must_8 : decode cX10_must 8 = .ok (.iload_n 2, 1) := by decide +kernel
theorem dX10_must_9 : decode cX10_must 9 = .ok (.invokevirtual 194, 3) := by decide +kernel
theorem dX10_must_12 : decode cX10_must 12 = .ok (.ifCond .eq 10, 3) := by decide +kernel
theorem dX10_must_15 : decode cX10_must 15 = .ok (.iload_n 3, 1) := by decide +kernel
theorem dX10_must_16 : decode cX10_must 16 = .ok (.invokestatic 129, 3) := by decide +kernel
theorem dX10_must_19 : decode cX10_must 19 = .ok (.ifCond .ne 10, 3) := by decide +kernel
theorem dX10_must_22 : decode cX10_must 22 = .ok (.aload_n 0, 1) := by decide +kernel
theorem dX10_must_23 : decode cX10_must 23 = .ok (.bipush (-2), 2) := by decide +kernel
theorem dX10_must_25 : decode cX10_must 25 = .ok (.invokevirtual 118, 3) := by decide +kernel
theorem dX10_must_28 : decode cX10_must 28 = .ok (.ireturn, 1) := by decide +kernel
theorem dX10_must_29 : decode cX10_must 29 = .ok (.aload_n 0, 1) := by decide +kernel
theorem dX10_must_30 : decode cX10_must 30 = .ok (.iload_n 1, 1) := by decide +kernel
theorem dX10_must_31 : decode cX10_must 31 = .ok (.invokevirtual 289, 3) := by decide +kernel
theorem dX10_must_34 : decode cX10_must 34 = .ok (.ifCond .eq 12, 3) := by decide +kernel
theorem dX10_must_37 : decode cX10_must 37 = .ok (.aload_n 0, 1) := by decide +kernel
theorem dX10_must_38 : decode cX10_must 38 = .ok (.iload_n 2, 1) := by decide +kernel
theorem dX10_must_39 : decode cX10_must 39 = .ok (.iload_n 3, 1) := by decide +kernel
theorem dX10_must_40 : decode cX10_must 40 = .ok (.invokevirtual 241, 3) := by decide +kernel
theorem dX10_must_43 : decode cX10_must 43 = .ok (.goto 7, 3) := by decide +kernel
theorem dX10_must_46 : decode cX10_must 46 = .ok (.aload_n 0, 1) := by decide +kernel
theorem dX10_must_47 : decode cX10_must 47 = .ok (.invokevirtual 286, 3) := by decide +kernel
theorem dX10_must_50 : decode cX10_must 50 = .ok (.ireturn, 1) := by decide +kernel
theorem dX10_hunger_0 : decode cX10_hunger 0 = .ok (.iload_n 1, 1) := by decide +kernel
theorem dX10_hunger_1 : decode cX10_hunger 1 = .ok (.invokestatic 129, 3) := by decide +kernel
theorem dX10_hunger_4 : decode cX10_hunger 4 = .ok (.ifCond .ne 10, 3) := by decide +kernel
theorem dX10_hunger_7 : decode cX10_hunger 7 = .ok (.aload_n 0, 1) := by decide +kernel
theorem dX10_hunger_8 : decode cX10_hunger 8 = .ok (.bipush (-2), 2) := by decide +kernel
theorem dX10_hunger_10 : decode cX10_hunger 10 = .ok (.invokevirtual 118, 3) := by decide +kernel
theorem dX10_hunger_13 : decode cX10_hunger 13 = .ok (.ireturn, 1) := by decide +kernel
theorem dX10_hunger_14 : decode cX10_hunger 14 = .ok (.aload_n 0, 1) := by decide +kernel
theorem dX10_hunger_15 : decode cX10_hunger 15 = .ok (.iload_n 1, 1) := by decide +kernel
theorem dX10_hunger_16 : decode cX10_hunger 16 = .ok (.invokevirtual 289, 3) := by decide +kernel
theorem dX10_hunger_19 : decode cX10_hunger 19 = .ok (.ifCond .eq 10, 3) := by decide +kernel
theorem dX10_hunger_22 : decode cX10_hunger 22 = .ok (.aload_n 0, 1) := by decide +kernel
theorem dX10_hunger_23 : decode cX10_hunger 23 = .ok (.invokevirtual 251, 3) := by decide +kernel
theorem dX10_hunger_26 : decode cX10_hunger 26 = .ok (.goto 7, 3) := by decide +kernel
theorem dX10_hunger_29 : decode cX10_hunger 29 = .ok (.aload_n 0, 1) := by decide +kernel
theorem dX10_hunger_30 : decode cX10_hunger 30 = .ok (.invokevirtual 286, 3) := by decide +kernel
theorem dX10_hunger_33 : decode cX10_hunger 33 = .ok (.ireturn, 1) := by decide +kernel
theorem dX10_odds_0 : decode cX10_odds 0 = .ok (.aload_n 0, 1) := by decide +kernel
theorem dX10_odds_1 : decode cX10_odds 1 = .ok (.iload_n 1, 1) := by decide +kernel
theorem dX10_odds_2 : decode cX10_odds 2 = .ok (.invokevirtual 220, 3) := by decide +kernel
theorem dX10_odds_5 : decode cX10_odds 5 = .ok (.ifCond .eq 21, 3) := by decide +kernel
theorem dX10_odds_8 : decode cX10_odds 8 = .ok (.iload_n 2, 1) := by decide +kernel
theorem dX10_odds_9 : decode cX10_odds 9 = .ok (.invokestatic 129, 3) := by decide +kernel
theorem dX10_odds_12 : decode cX10_odds 12 = .ok (.ifCond .eq 14, 3) := by decide +kernel
theorem dX10_odds_15 : decode cX10_odds 15 = .ok (.aload_n 0, 1) := by decide +kernel
theorem dX10_odds_16 : decode cX10_odds 16 = .ok (.iconst 0, 1) := by decide +kernel
theorem dX10_odds_17 : decode cX10_odds 17 = .ok (.iload_n 1, 1) := by decide +kernel
theorem dX10_odds_18 : decode cX10_odds 18 = .ok (.iload_n 2, 1) := by decide +kernel
theorem dX10_odds_19 : decode cX10_odds 19 = .ok (.iconst 0, 1) := by decide +kernel
theorem dX10_odds_20 : decode cX10_odds 20 = .ok (.invokevirtual 292, 3) := by decide +kernel
theorem dX10_odds_23 : decode cX10_odds 23 = .ok (.goto 9, 3) := by decide +kernel
theorem dX10_odds_26 : decode cX10_odds 26 = .ok (.aload_n 0, 1) := by decide +kernel
theorem dX10_odds_27 : decode cX10_odds 27 = .ok (.bipush (-2), 2) := by decide +kernel
theorem dX10_odds_29 : decode cX10_odds 29 = .ok (.invokevirtual 118, 3) := by decide +kernel
theorem dX10_odds_32 : decode cX10_odds 32 = .ok (.ireturn, 1) := by decide +kernel
theorem dX10_all_0 : decode cX10_all 0 = .ok (.iload_n 1, 1) := by decide +kernel
theorem dX10_all_1 : decode cX10_all 1 = .ok (.invokestatic 129, 3) := by decide +kernel
theorem dX10_all_4 : decode cX10_all 4 = .ok (.ifCond .eq 14, 3) := by decide +kernel
theorem dX10_all_7 : decode cX10_all 7 = .ok (.aload_n 0, 1) := by decide +kernel
theorem dX10_all_8 : decode cX10_all 8 = .ok (.iconst 1, 1) := by decide +kernel
theorem dX10_all_9 : decode cX10_all 9 = .ok (.iload_n 1, 1) := by decide +kernel
theorem dX10_all_10 : decode cX10_all 10 = .ok (.iconst 0, 1) := by decide +kernel
theorem dX10_all_11 : decode cX10_all 11 = .ok (.iconst 0, 1) := by decide +kernel
theorem dX10_all_12 : decode cX10_all 12 = .ok (.invokevirtual 292, 3) := by decide +kernel
theorem dX10_all_15 : decode cX10_all 15 = .ok (.goto 9, 3) := by decide +kernel
theorem dX10_all_18 : decode cX10_all 18 = .ok (.aload_n 0, 1) := by decide +kernel
theorem dX10_all_19 : decode cX10_all 19 = .ok (.bipush (-2), 2) := by decide +kernel
theorem dX10_all_21 : decode cX10_all 21 = .ok (.invokevirtual 118, 3) := by decide +kernel
theorem dX10_all_24 : decode cX10_all 24 = .ok (.ireturn, 1) := by decide +kernel
theorem dX10_where_0 : decode cX10_where 0 = .ok (.aload_n 0, 1) := by decide +kernel
theorem dX10_where_1 : decode cX10_where 1 = .ok (.iload_n 1, 1) := by decide +kernel
theorem dX10_where_2 : decode cX10_where 2 = .ok (.invokevirtual 220, 3) := by decide +kernel
theorem dX10_where_5 : decode cX10_where 5 = .ok (.ifCond .eq 29, 3) := by decide +kernel
theorem dX10_where_8 : decode cX10_where 8 = .ok (.iload_n 2, 1) := by decide +kernel
theorem dX10_where_9 : decode cX10_where 9 = .ok (.invokestatic 223, 3) := by decide +kernel
theorem dX10_where_12 : decode cX10_where 12 = .ok (.ifCond .eq 22, 3) := by decide +kernel
theorem dX10_where_15 : decode cX10_where 15 = .ok (.aload_n 0, 1) := by decide +kernel
theorem dX10_where_16 : decode cX10_where 16 = .ok (.iload_n 3, 1) := by decide +kernel
theorem dX10_where_17 : decode cX10_where 17 = .ok (.invokevirtual 226, 3) := by decide +kernel
theorem dX10_where_20 : decode cX10_where 20 = .ok (.ifCond .eq 14, 3) := by decide +kernel
theorem dX10_where_23 : decode cX10_where 23 = .ok (.aload_n 0, 1) := by decide +kernel
theorem dX10_where_24 : decode cX10_where 24 = .ok (.iconst 2, 1) := by decide +kernel
theorem dX10_where_25 : decode cX10_where 25 = .ok (.iload_n 1, 1) := by decide +kernel
theorem dX10_where_26 : decode cX10_where 26 = .ok (.iload_n 2, 1) := by decide +kernel
theorem dX10_where_27 : decode cX10_where 27 = .ok (.iload_n 3, 1) := by decide +kernel
theorem dX10_where_28 : decode cX10_where 28 = .ok (.invokevirtual 292, 3) := by decide +kernel
theorem dX10_where_31 : decode cX10_where 31 = .ok (.goto 9, 3) := by decide +kernel
theorem dX10_where_34 : decode cX10_where 34 = .ok (.aload_n 0, 1) := by decide +kernel
theorem dX10_where_35 : decode cX10_where 35 = .ok (.bipush (-2), 2) := by decide +kernel
theorem dX10_where_37 : decode cX10_where 37 = .ok (.invokevirtual 118, 3) := by decide +kernel
theorem dX10_where_40 : decode cX10_where 40 = .ok (.ireturn, 1) := by decide +kernel
theorem dX10_so_0 : decode cX10_so 0 = .ok (.iload_n 1, 1) := by decide +kernel
theorem dX10_so_1 : decode cX10_so 1 = .ok (.i2l, 1) := by decide +kernel
theorem dX10_so_2 : decode cX10_so 2 = .ok (.lconst 0, 1) := by decide +kernel
theorem dX10_so_3 : decode cX10_so 3 = .ok (.aload_n 0, 1) := by decide +kernel
theorem dX10_so_4 : decode cX10_so 4 = .ok (.invokevirtual 229, 3) := by decide +kernel
theorem dX10_so_7 : decode cX10_so 7 = .ok (.iconst 1, 1) := by decide +kernel
theorem dX10_so_8 : decode cX10_so 8 = .ok (.isub, 1) := by decide +kernel
theorem dX10_so_9 : decode cX10_so 9 = .ok (.i2l, 1) := by decide +kernel
theorem dX10_so_10 : decode cX10_so 10 = .ok (.invokestatic 105, 3) := by decide +kernel
theorem dX10_so_13 : decode cX10_so 13 = .ok (.ifCond .eq 14, 3) := by decide +kernel
theorem dX10_so_16 : decode cX10_so 16 = .ok (.aload_n 0, 1) := by decide +kernel
theorem dX10_so_17 : decode cX10_so 17 = .ok (.iconst 3, 1) := by decide +kernel
theorem dX10_so_18 : decode cX10_so 18 = .ok (.iload_n 1, 1) := by decide +kernel
theorem dX10_so_19 : decode cX10_so 19 = .ok (.iconst 0, 1) := by decide +kernel
theorem dX10_so_20 : decode cX10_so 20 = .ok (.iconst 0, 1) := by decide +kernel
theorem dX10_so_21 : decode cX10_so 21 = .ok (.invokevirtual 292, 3) := by decide +kernel
theorem dX10_so_24 : decode cX10_so 24 = .ok (.goto 9, 3) := by decide +kernel
theorem dX10_so_27 : decode cX10_so 27 = .ok (.aload_n 0, 1) := by decide +kernel
theorem dX10_so_28 : decode cX10_so 28 = .ok (.bipush (-2), 2) := by decide +kernel
theorem dX10_so_30 : decode cX10_so 30 = .ok (.invokevirtual 118, 3) := by decide +kernel
theorem dX10_so_33 : decode cX10_so 33 = .ok (.ireturn, 1) := by decide +kernel
theorem dX10_lost_0 : decode cX10_lost 0 = .ok (.aload_n 0, 1) := by decide +kernel
theorem dX10_lost_1 : decode cX10_lost 1 = .ok (.iload_n 1, 1) := by decide +kernel
theorem dX10_lost_2 : decode cX10_lost 2 = .ok (.invokevirtual 220, 3) := by decide +kernel
theorem dX10_lost_5 : decode cX10_lost 5 = .ok (.ifCond .ne 10, 3) := by decide +kernel
theorem dX10_lost_8 : decode cX10_lost 8 = .ok (.aload_n 0, 1) := by decide +kernel
theorem dX10_lost_9 : decode cX10_lost 9 = .ok (.bipush (-2), 2) := by decide +kernel
theorem dX10_lost_11 : decode cX10_lost 11 = .ok (.invokevirtual 118, 3) := by decide +kernel
theorem dX10_lost_14 : decode cX10_lost 14 = .ok (.ireturn, 1) := by decide +kernel
theorem dX10_lost_15 : decode cX10_lost 15 = .ok (.aload_n 0, 1) := by decide +kernel
theorem dX10_lost_16 : decode cX10_lost 16 = .ok (.iconst 2, 1) := by decide +kernel
theorem dX10_lost_17 : decode cX10_lost 17 = .ok (.iload_n 1, 1) := by decide +kernel
theorem dX10_lost_18 : decode cX10_lost 18 = .ok (.bipush 119, 2) := by decide +kernel
theorem dX10_lost_20 : decode cX10_lost 20 = .ok (.bipush 7, 2) := by decide +kernel
theorem dX10_lost_22 : decode cX10_lost 22 = .ok (.invokevirtual 283, 3) := by decide +kernel
theorem dX10_lost_25 : decode cX10_lost 25 = .ok (.ifCond .ne 8, 3) := by decide +kernel
theorem dX10_lost_28 : decode cX10_lost 28 = .ok (.aload_n 0, 1) := by decide +kernel
theorem dX10_lost_29 : decode cX10_lost 29 = .ok (.invokevirtual 286, 3) := by decide +kernel
theorem dX10_lost_32 : decode cX10_lost 32 = .ok (.ireturn, 1) := by decide +kernel
theorem dX10_lost_33 : decode cX10_lost 33 = .ok (.aload_n 0, 1) := by decide +kernel
theorem dX10_lost_34 : decode cX10_lost 34 = .ok (.getfield 27, 3) := by decide +kernel
theorem dX10_lost_37 : decode cX10_lost 37 = .ok (.bipush 6, 2) := by decide +kernel
theorem dX10_lost_39 : decode cX10_lost 39 = .ok (.iaload, 1) := by decide +kernel
theorem dX10_lost_40 : decode cX10_lost 40 = .ok (.ifCond .ne 7, 3) := by decide +kernel
theorem dX10_lost_43 : decode cX10_lost 43 = .ok (.iconst 0, 1) := by decide +kernel
theorem dX10_lost_44 : decode cX10_lost 44 = .ok (.goto 18, 3) := by decide +kernel
theorem dX10_lost_47 : decode cX10_lost 47 = .ok (.aload_n 0, 1) := by decide +kernel
theorem dX10_lost_48 : decode cX10_lost 48 = .ok (.bipush 6, 2) := by decide +kernel
theorem dX10_lost_50 : decode cX10_lost 50 = .ok (.iconst 5, 1) := by decide +kernel
theorem dX10_lost_51 : decode cX10_lost 51 = .ok (.invokevirtual 74, 3) := by decide +kernel
theorem dX10_lost_54 : decode cX10_lost 54 = .ok (.ifCond .ne 7, 3) := by decide +kernel
theorem dX10_lost_57 : decode cX10_lost 57 = .ok (.iconst 1, 1) := by decide +kernel
theorem dX10_lost_58 : decode cX10_lost 58 = .ok (.goto 4, 3) := by decide +kernel
theorem dX10_lost_61 : decode cX10_lost 61 = .ok (.iconst 2, 1) := by decide +kernel
theorem dX10_lost_62 : decode cX10_lost 62 = .ok (.ireturn, 1) := by decide +kernel
theorem dX10_next_0 : decode cX10_next 0 = .ok (.iconst 0, 1) := by decide +kernel
theorem dX10_next_1 : decode cX10_next 1 = .ok (.istore_n 1, 1) := by decide +kernel
theorem dX10_next_2 : decode cX10_next 2 = .ok (.iload_n 1, 1) := by decide +kernel
theorem dX10_next_3 : decode cX10_next 3 = .ok (.iconst 4, 1) := by decide +kernel
theorem dX10_next_4 : decode cX10_next 4 = .ok (.if_icmp .ge 46, 3) := by decide +kernel
theorem dX10_next_7 : decode cX10_next 7 = .ok (.aload_n 0, 1) := by decide +kernel
theorem dX10_next_8 : decode cX10_next 8 = .ok (.iconst 1, 1) := by decide +kernel
theorem dX10_next_9 : decode cX10_next 9 = .ok (.iload_n 1, 1) := by decide +kernel
theorem dX10_next_10 : decode cX10_next 10 = .ok (.iconst 0, 1) := by decide +kernel
theorem dX10_next_11 : decode cX10_next 11 = .ok (.iconst 0, 1) := by decide +kernel
theorem dX10_next_12 : decode cX10_next 12 = .ok (.invokevirtual 283, 3) := by decide +kernel
theorem dX10_next_15 : decode cX10_next 15 = .ok (.ifCond .ne 8, 3) := by decide +kernel
theorem dX10_next_18 : decode cX10_next 18 = .ok (.aload_n 0, 1) := by decide +kernel
theorem dX10_next_19 : decode cX10_next 19 = .ok (.invokevirtual 286, 3) := by decide +kernel
theorem dX10_next_22 : decode cX10_next 22 = .ok (.ireturn, 1) := by decide +kernel
theorem dX10_next_23 : decode cX10_next 23 = .ok (.aload_n 0, 1) := by decide +kernel
theorem dX10_next_24 : decode cX10_next 24 = .ok (.getfield 45, 3) := by decide +kernel
theorem dX10_next_27 : decode cX10_next 27 = .ok (.iload_n 1, 1) := by decide +kernel
theorem dX10_next_28 : decode cX10_next 28 = .ok (.aload_n 0, 1) := by decide +kernel
theorem dX10_next_29 : decode cX10_next 29 = .ok (.getfield 27, 3) := by decide +kernel
theorem dX10_next_32 : decode cX10_next 32 = .ok (.bipush 6, 2) := by decide +kernel
theorem dX10_next_34 : decode cX10_next 34 = .ok (.iaload, 1) := by decide +kernel
theorem dX10_next_35 : decode cX10_next 35 = .ok (.ifCond .le 7, 3) := by decide +kernel
theorem dX10_next_38 : decode cX10_next 38 = .ok (.iconst 1, 1) := by decide +kernel
theorem dX10_next_39 : decode cX10_next 39 = .ok (.goto 4, 3) := by decide +kernel
theorem dX10_next_42 : decode cX10_next 42 = .ok (.iconst 0, 1) := by decide +kernel
theorem dX10_next_43 : decode cX10_next 43 = .ok (.bastore, 1) := by decide +kernel
theorem dX10_next_44 : decode cX10_next 44 = .ok (.iinc 1 1, 3) := by decide +kernel
theorem dX10_next_47 : decode cX10_next 47 = .ok (.goto (-45), 3) := by decide +kernel
theorem dX10_next_50 : decode cX10_next 50 = .ok (.iconst (-1), 1) := by decide +kernel
theorem dX10_next_51 : decode cX10_next 51 = .ok (.istore_n 1, 1) := by decide +kernel
theorem dX10_next_52 : decode cX10_next 52 = .ok (.iconst 0, 1) := by decide +kernel
theorem dX10_next_53 : decode cX10_next 53 = .ok (.istore_n 2, 1) := by decide +kernel
theorem dX10_next_54 : decode cX10_next 54 = .ok (.iconst 0, 1) := by decide +kernel
theorem dX10_next_55 : decode cX10_next 55 = .ok (.istore_n 3, 1) := by decide +kernel
theorem dX10_next_56 : decode cX10_next 56 = .ok (.iload_n 3, 1) := by decide +kernel
theorem dX10_next_57 : decode cX10_next 57 = .ok (.aload_n 0, 1) := by decide +kernel
theorem dX10_next_58 : decode cX10_next 58 = .ok (.invokevirtual 101, 3) := by decide +kernel
theorem dX10_next_61 : decode cX10_next 61 = .ok (.if_icmp .ge 74, 3) := by decide +kernel
theorem dX10_next_64 : decode cX10_next 64 = .ok (.iconst 0, 1) := by decide +kernel
theorem dX10_next_65 : decode cX10_next 65 = .ok (.istore 4, 2) := by decide +kernel
theorem dX10_next_67 : decode cX10_next 67 = .ok (.iload 4, 2) := by decide +kernel
theorem dX10_next_69 : decode cX10_next 69 = .ok (.iconst 4, 1) := by decide +kernel
theorem dX10_next_70 : decode cX10_next 70 = .ok (.if_icmp .ge 59, 3) := by decide +kernel
theorem dX10_next_73 : decode cX10_next 73 = .ok (.aload_n 0, 1) := by decide +kernel
theorem dX10_next_74 : decode cX10_next 74 = .ok (.iload_n 3, 1) := by decide +kernel
theorem dX10_next_75 : decode cX10_next 75 = .ok (.iload 4, 2) := by decide +kernel
theorem dX10_next_77 : decode cX10_next 77 = .ok (.invokevirtual 211, 3) := by decide +kernel
theorem dX10_next_80 : decode cX10_next 80 = .ok (.ifCond .ne 43, 3) := by decide +kernel
theorem dX10_next_83 : decode cX10_next 83 = .ok (.aload_n 0, 1) := by decide +kernel
theorem dX10_next_84 : decode cX10_next 84 = .ok (.iload_n 3, 1) := by decide +kernel
theorem dX10_next_85 : decode cX10_next 85 = .ok (.iload 4, 2) := by decide +kernel
theorem dX10_next_87 : decode cX10_next 87 = .ok (.invokevirtual 296, 3) := by decide +kernel
theorem dX10_next_90 : decode cX10_next 90 = .ok (.istore 5, 2) := by decide +kernel
theorem dX10_next_92 : decode cX10_next 92 = .ok (.iload 5, 2) := by decide +kernel
theorem dX10_next_94 : decode cX10_next 94 = .ok (.iload_n 2, 1) := by decide +kernel
theorem dX10_next_95 : decode cX10_next 95 = .ok (.if_icmp .le 13, 3) := by decide +kernel
theorem dX10_next_98 : decode cX10_next 98 = .ok (.bipush 10, 2) := by decide +kernel
theorem dX10_next_100 : decode cX10_next 100 = .ok (.iload_n 3, 1) := by decide +kernel
theorem dX10_next_101 : decode cX10_next 101 = .ok (.imul, 1) := by decide +kernel
theorem dX10_next_102 : decode cX10_next 102 = .ok (.iload 4, 2) := by decide +kernel
theorem dX10_next_104 : decode cX10_next 104 = .ok (.iadd, 1) := by decide +kernel
theorem dX10_next_105 : decode cX10_next 105 = .ok (.goto 4, 3) := by decide +kernel
theorem dX10_next_108 : decode cX10_next 108 = .ok (.iload_n 1, 1) := by decide +kernel
theorem dX10_next_109 : decode cX10_next 109 = .ok (.istore_n 1, 1) := by decide +kernel
theorem dX10_next_110 : decode cX10_next 110 = .ok (.iload 5, 2) := by decide +kernel
theorem dX10_next_112 : decode cX10_next 112 = .ok (.iload_n 2, 1) := by decide +kernel
theorem dX10_next_113 : decode cX10_next 113 = .ok (.if_icmp .le 8, 3) := by decide +kernel
theorem dX10_next_116 : decode cX10_next 116 = .ok (.iload 5, 2) := by decide +kernel
theorem dX10_next_118 : decode cX10_next 118 = .ok (.goto 4, 3) := by decide +kernel
theorem dX10_next_121 : decode cX10_next 121 = .ok (.iload_n 2, 1) := by decide +kernel
theorem dX10_next_122 : decode cX10_next 122 = .ok (.istore_n 2, 1) := by decide +kernel
theorem dX10_next_123 : decode cX10_next 123 = .ok (.iinc 4 1, 3) := by decide +kernel
theorem dX10_next_126 : decode cX10_next 126 = .ok (.goto (-59), 3) := by decide +kernel
theorem dX10_next_129 : decode cX10_next 129 = .ok (.iinc 3 1, 3) := by decide +kernel
theorem dX10_next_132 : decode cX10_next 132 = .ok (.goto (-76), 3) := by decide +kernel
theorem dX10_next_135 : decode cX10_next 135 = .ok (.iload_n 1, 1) := by decide +kernel
theorem dX10_next_136 : decode cX10_next 136 = .ok (.ireturn, 1) := by decide +kernel
theorem dX10_differs_0 : decode cX10_differs 0 = .ok (.bipush 21, 2) := by decide +kernel
theorem dX10_differs_2 : decode cX10_differs 2 = .ok (.istore_n 3, 1) := by decide +kernel
theorem dX10_differs_3 : decode cX10_differs 3 = .ok (.iconst 0, 1) := by decide +kernel
theorem dX10_differs_4 : decode cX10_differs 4 = .ok (.istore 4, 2) := by decide +kernel
theorem dX10_differs_6 : decode cX10_differs 6 = .ok (.iconst 0, 1) := by decide +kernel
theorem dX10_differs_7 : decode cX10_differs 7 = .ok (.istore 5, 2) := by decide +kernel
theorem dX10_differs_9 : decode cX10_differs 9 = .ok (.iload 5, 2) := by decide +kernel
theorem dX10_differs_11 : decode cX10_differs 11 = .ok (.iconst 4, 1) := by decide +kernel
theorem dX10_differs_12 : decode cX10_differs 12 = .ok (.if_icmp .ge 80, 3) := by decide +kernel
theorem dX10_differs_15 : decode cX10_differs 15 = .ok (.aload_n 0, 1) := by decide +kernel
theorem dX10_differs_16 : decode cX10_differs 16 = .ok (.getfield 45, 3) := by decide +kernel
theorem dX10_differs_19 : decode cX10_differs 19 = .ok (.iload 5, 2) := by decide +kernel
theorem dX10_differs_21 : decode cX10_differs 21 = .ok (.baload, 1) := by decide +kernel
theorem dX10_differs_22 : decode cX10_differs 22 = .ok (.ifCond .eq 64, 3) := by decide +kernel
theorem dX10_differs_25 : decode cX10_differs 25 = .ok (.iconst 0, 1) := by decide +kernel
theorem dX10_differs_26 : decode cX10_differs 26 = .ok (.istore 6, 2) := by decide +kernel
theorem dX10_differs_28 : decode cX10_differs 28 = .ok (.iload 6, 2) := by decide +kernel
theorem dX10_differs_30 : decode cX10_differs 30 = .ok (.iconst 4, 1) := by decide +kernel
theorem dX10_differs_31 : decode cX10_differs 31 = .ok (.if_icmp .ge 18, 3) := by decide +kernel
theorem dX10_differs_34 : decode cX10_differs 34 = .ok (.aload_n 0, 1) := by decide +kernel
theorem dX10_differs_35 : decode cX10_differs 35 = .ok (.getfield 42, 3) := by decide +kernel
theorem dX10_differs_38 : decode cX10_differs 38 = .ok (.iload 6, 2) := by decide +kernel
theorem dX10_differs_40 : decode cX10_differs 40 = .ok (.iload 5, 2) := by decide +kernel
theorem dX10_differs_42 : decode cX10_differs 42 = .ok (.iastore, 1) := by decide +kernel
theorem dX10_differs_43 : decode cX10_differs 43 = .ok (.iinc 6 1, 3) := by decide +kernel
theorem dX10_differs_46 : decode cX10_differs 46 = .ok (.goto (-18), 3) := by decide +kernel
theorem dX10_differs_49 : decode cX10_differs 49 = .ok (.aload_n 0, 1) := by decide +kernel
theorem dX10_differs_50 : decode cX10_differs 50 = .ok (.iload_n 1, 1) := by decide +kernel
theorem dX10_differs_51 : decode cX10_differs 51 = .ok (.iload_n 2, 1) := by decide +kernel
theorem dX10_differs_52 : decode cX10_differs 52 = .ok (.invokevirtual 241, 3) := by decide +kernel
theorem dX10_differs_55 : decode cX10_differs 55 = .ok (.istore 6, 2) := by decide +kernel
theorem dX10_differs_57 : decode cX10_differs 57 = .ok (.iload 6, 2) := by decide +kernel
theorem dX10_differs_59 : decode cX10_differs 59 = .ok (.iload_n 3, 1) := by decide +kernel
theorem dX10_differs_60 : decode cX10_differs 60 = .ok (.if_icmp .ge 8, 3) := by decide +kernel
theorem dX10_differs_63 : decode cX10_differs 63 = .ok (.iload 6, 2) := by decide +kernel
theorem dX10_differs_65 : decode cX10_differs 65 = .ok (.goto 4, 3) := by decide +kernel
theorem dX10_differs_68 : decode cX10_differs 68 = .ok (.iload_n 3, 1) := by decide +kernel
theorem dX10_differs_69 : decode cX10_differs 69 = .ok (.istore_n 3, 1) := by decide +kernel
theorem dX10_differs_70 : decode cX10_differs 70 = .ok (.iload 6, 2) := by decide +kernel
theorem dX10_differs_72 : decode cX10_differs 72 = .ok (.iload 4, 2) := by decide +kernel
theorem dX10_differs_74 : decode cX10_differs 74 = .ok (.if_icmp .le 8, 3) := by decide +kernel
theorem dX10_differs_77 : decode cX10_differs 77 = .ok (.iload 6, 2) := by decide +kernel
theorem dX10_differs_79 : decode cX10_differs 79 = .ok (.goto 5, 3) := by decide +kernel
theorem dX10_differs_82 : decode cX10_differs 82 = .ok (.iload 4, 2) := by decide +kernel
theorem dX10_differs_84 : decode cX10_differs 84 = .ok (.istore 4, 2) := by decide +kernel
theorem dX10_differs_86 : decode cX10_differs 86 = .ok (.iinc 5 1, 3) := by decide +kernel
theorem dX10_differs_89 : decode cX10_differs 89 = .ok (.goto (-80), 3) := by decide +kernel
theorem dX10_differs_92 : decode cX10_differs 92 = .ok (.iload 4, 2) := by decide +kernel
theorem dX10_differs_94 : decode cX10_differs 94 = .ok (.iload_n 3, 1) := by decide +kernel
theorem dX10_differs_95 : decode cX10_differs 95 = .ok (.if_icmp .le 10, 3) := by decide +kernel
theorem dX10_differs_98 : decode cX10_differs 98 = .ok (.iload 4, 2) := by decide +kernel
theorem dX10_differs_100 : decode cX10_differs 100 = .ok (.iload_n 3, 1) := by decide +kernel
theorem dX10_differs_101 : decode cX10_differs 101 = .ok (.isub, 1) := by decide +kernel
theorem dX10_differs_102 : decode cX10_differs 102 = .ok (.goto 4, 3) := by decide +kernel
theorem dX10_differs_105 : decode cX10_differs 105 = .ok (.iconst 0, 1) := by decide +kernel
theorem dX10_differs_106 : decode cX10_differs 106 = .ok (.ireturn, 1) := by decide +kernel
theorem dX10_isYear_0 : decode cX10_isYear 0 = .ok (.iload_n 0, 1) := by decide +kernel
theorem dX10_isYear_1 : decode cX10_isYear 1 = .ok (.i2l, 1) := by decide +kernel
theorem dX10_isYear_2 : decode cX10_isYear 2 = .ok (.lconst 0, 1) := by decide +kernel
theorem dX10_isYear_3 : decode cX10_isYear 3 = .ok (.ldc2_w 125, 3) := by decide +kernel
theorem dX10_isYear_6 : decode cX10_isYear 6 = .ok (.invokestatic 105, 3) := by decide +kernel
theorem dX10_isYear_9 : decode cX10_isYear 9 = .ok (.ireturn, 1) := by decide +kernel
theorem dX10_fed_0 : decode cX10_fed 0 = .ok (.aload_n 0, 1) := by decide +kernel
theorem dX10_fed_1 : decode cX10_fed 1 = .ok (.iload_n 1, 1) := by decide +kernel
theorem dX10_fed_2 : decode cX10_fed 2 = .ok (.invokevirtual 194, 3) := by decide +kernel
theorem dX10_fed_5 : decode cX10_fed 5 = .ok (.ifCond .eq 19, 3) := by decide +kernel
theorem dX10_fed_8 : decode cX10_fed 8 = .ok (.iload_n 2, 1) := by decide +kernel
theorem dX10_fed_9 : decode cX10_fed 9 = .ok (.invokestatic 299, 3) := by decide +kernel
theorem dX10_fed_12 : decode cX10_fed 12 = .ok (.ifCond .eq 12, 3) := by decide +kernel
theorem dX10_fed_15 : decode cX10_fed 15 = .ok (.aload_n 0, 1) := by decide +kernel
theorem dX10_fed_16 : decode cX10_fed 16 = .ok (.iload_n 1, 1) := by decide +kernel
theorem dX10_fed_17 : decode cX10_fed 17 = .ok (.iload_n 2, 1) := by decide +kernel
theorem dX10_fed_18 : decode cX10_fed 18 = .ok (.invokevirtual 235, 3) := by decide +kernel
theorem dX10_fed_21 : decode cX10_fed 21 = .ok (.goto 9, 3) := by decide +kernel
theorem dX10_fed_24 : decode cX10_fed 24 = .ok (.aload_n 0, 1) := by decide +kernel
theorem dX10_fed_25 : decode cX10_fed 25 = .ok (.bipush (-2), 2) := by decide +kernel
theorem dX10_fed_27 : decode cX10_fed 27 = .ok (.invokevirtual 118, 3) := by decide +kernel
theorem dX10_fed_30 : decode cX10_fed 30 = .ok (.ireturn, 1) := by decide +kernel
theorem dX10_dry_0 : decode cX10_dry 0 = .ok (.aload_n 0, 1) := by decide +kernel
theorem dX10_dry_1 : decode cX10_dry 1 = .ok (.iload_n 1, 1) := by decide +kernel
theorem dX10_dry_2 : decode cX10_dry 2 = .ok (.invokevirtual 194, 3) := by decide +kernel
theorem dX10_dry_5 : decode cX10_dry 5 = .ok (.ifCond .eq 25, 3) := by decide +kernel
theorem dX10_dry_8 : decode cX10_dry 8 = .ok (.iload_n 2, 1) := by decide +kernel
theorem dX10_dry_9 : decode cX10_dry 9 = .ok (.i2l, 1) := by decide +kernel
theorem dX10_dry_10 : decode cX10_dry 10 = .ok (.lconst 0, 1) := by decide +kernel
theorem dX10_dry_11 : decode cX10_dry 11 = .ok (.ldc2_w 132, 3) := by decide +kernel
theorem dX10_dry_14 : decode cX10_dry 14 = .ok (.invokestatic 105, 3) := by decide +kernel
theorem dX10_dry_17 : decode cX10_dry 17 = .ok (.ifCond .eq 13, 3) := by decide +kernel
theorem dX10_dry_20 : decode cX10_dry 20 = .ok (.iload_n 3, 1) := by decide +kernel
theorem dX10_dry_21 : decode cX10_dry 21 = .ok (.i2l, 1) := by decide +kernel
theorem dX10_dry_22 : decode cX10_dry 22 = .ok (.lconst 0, 1) := by decide +kernel
theorem dX10_dry_23 : decode cX10_dry 23 = .ok (.lconst 1, 1) := by decide +kernel
theorem dX10_dry_24 : decode cX10_dry 24 = .ok (.invokestatic 105, 3) := by decide +kernel
theorem dX10_dry_27 : decode cX10_dry 27 = .ok (.ifCond .ne 10, 3) := by decide +kernel
theorem dX10_dry_30 : decode cX10_dry 30 = .ok (.aload_n 0, 1) := by decide +kernel
theorem dX10_dry_31 : decode cX10_dry 31 = .ok (.bipush (-10), 2) := by decide +kernel
theorem dX10_dry_33 : decode cX10_dry 33 = .ok (.invokevirtual 118, 3) := by decide +kernel
theorem dX10_dry_36 : decode cX10_dry 36 = .ok (.ireturn, 1) := by decide +kernel
theorem dX10_dry_37 : decode cX10_dry 37 = .ok (.iconst (-1), 1) := by decide +kernel
theorem dX10_dry_38 : decode cX10_dry 38 = .ok (.istore 4, 2) := by decide +kernel
theorem dX10_dry_40 : decode cX10_dry 40 = .ok (.iconst 0, 1) := by decide +kernel
theorem dX10_dry_41 : decode cX10_dry 41 = .ok (.istore 5, 2) := by decide +kernel
theorem dX10_dry_43 : decode cX10_dry 43 = .ok (.iconst 0, 1) := by decide +kernel
theorem dX10_dry_44 : decode cX10_dry 44 = .ok (.istore 6, 2) := by decide +kernel
theorem dX10_dry_46 : decode cX10_dry 46 = .ok (.iconst 0, 1) := by decide +kernel
theorem dX10_dry_47 : decode cX10_dry 47 = .ok (.istore 7, 2) := by decide +kernel
theorem dX10_dry_49 : decode cX10_dry 49 = .ok (.iload 7, 2) := by decide +kernel
theorem dX10_dry_51 : decode cX10_dry 51 = .ok (.bipush 10, 2) := by decide +kernel
theorem dX10_dry_53 : decode cX10_dry 53 = .ok (.if_icmp .ge 67, 3) := by decide +kernel
theorem dX10_dry_56 : decode cX10_dry 56 = .ok (.aload_n 0, 1) := by decide +kernel
theorem dX10_dry_57 : decode cX10_dry 57 = .ok (.iload_n 1, 1) := by decide +kernel
theorem dX10_dry_58 : decode cX10_dry 58 = .ok (.iload 7, 2) := by decide +kernel
theorem dX10_dry_60 : decode cX10_dry 60 = .ok (.invokevirtual 235, 3) := by decide +kernel
theorem dX10_dry_63 : decode cX10_dry 63 = .ok (.iload_n 2, 1) := by decide +kernel
theorem dX10_dry_64 : decode cX10_dry 64 = .ok (.if_icmp .ge 10, 3) := by decide +kernel
theorem dX10_dry_67 : decode cX10_dry 67 = .ok (.iload 6, 2) := by decide +kernel
theorem dX10_dry_69 : decode cX10_dry 69 = .ok (.iconst 1, 1) := by decide +kernel
theorem dX10_dry_70 : decode cX10_dry 70 = .ok (.iadd, 1) := by decide +kernel
theorem dX10_dry_71 : decode cX10_dry 71 = .ok (.goto 4, 3) := by decide +kernel
theorem dX10_dry_74 : decode cX10_dry 74 = .ok (.iconst 0, 1) := by decide +kernel
theorem dX10_dry_75 : decode cX10_dry 75 = .ok (.istore 6, 2) := by decide +kernel
theorem dX10_dry_77 : decode cX10_dry 77 = .ok (.iload 6, 2) := by decide +kernel
theorem dX10_dry_79 : decode cX10_dry 79 = .ok (.iload 5, 2) := by decide +kernel
theorem dX10_dry_81 : decode cX10_dry 81 = .ok (.if_icmp .le 13, 3) := by decide +kernel
theorem dX10_dry_84 : decode cX10_dry 84 = .ok (.iload 7, 2) := by decide +kernel
theorem dX10_dry_86 : decode cX10_dry 86 = .ok (.iload 6, 2) := by decide +kernel
theorem dX10_dry_88 : decode cX10_dry 88 = .ok (.isub, 1) := by decide +kernel
theorem dX10_dry_89 : decode cX10_dry 89 = .ok (.iconst 1, 1) := by decide +kernel
theorem dX10_dry_90 : decode cX10_dry 90 = .ok (.iadd, 1) := by decide +kernel
theorem dX10_dry_91 : decode cX10_dry 91 = .ok (.goto 5, 3) := by decide +kernel
theorem dX10_dry_94 : decode cX10_dry 94 = .ok (.iload 4, 2) := by decide +kernel
theorem dX10_dry_96 : decode cX10_dry 96 = .ok (.istore 4, 2) := by decide +kernel
theorem dX10_dry_98 : decode cX10_dry 98 = .ok (.iload 6, 2) := by decide +kernel
theorem dX10_dry_100 : decode cX10_dry 100 = .ok (.iload 5, 2) := by decide +kernel
theorem dX10_dry_102 : decode cX10_dry 102 = .ok (.if_icmp .le 8, 3) := by decide +kernel
theorem dX10_dry_105 : decode cX10_dry 105 = .ok (.iload 6, 2) := by decide +kernel
theorem dX10_dry_107 : decode cX10_dry 107 = .ok (.goto 5, 3) := by decide +kernel
theorem dX10_dry_110 : decode cX10_dry 110 = .ok (.iload 5, 2) := by decide +kernel
theorem dX10_dry_112 : decode cX10_dry 112 = .ok (.istore 5, 2) := by decide +kernel
theorem dX10_dry_114 : decode cX10_dry 114 = .ok (.iinc 7 1, 3) := by decide +kernel
theorem dX10_dry_117 : decode cX10_dry 117 = .ok (.goto (-68), 3) := by decide +kernel
theorem dX10_dry_120 : decode cX10_dry 120 = .ok (.iload_n 3, 1) := by decide +kernel
theorem dX10_dry_121 : decode cX10_dry 121 = .ok (.ifCond .ne 8, 3) := by decide +kernel
theorem dX10_dry_124 : decode cX10_dry 124 = .ok (.iload 4, 2) := by decide +kernel
theorem dX10_dry_126 : decode cX10_dry 126 = .ok (.goto 5, 3) := by decide +kernel
theorem dX10_dry_129 : decode cX10_dry 129 = .ok (.iload 5, 2) := by decide +kernel
theorem dX10_dry_131 : decode cX10_dry 131 = .ok (.ireturn, 1) := by decide +kernel
theorem dX10_many_0 : decode cX10_many 0 = .ok (.iload_n 1, 1) := by decide +kernel
theorem dX10_many_1 : decode cX10_many 1 = .ok (.invokestatic 129, 3) := by decide +kernel
theorem dX10_many_4 : decode cX10_many 4 = .ok (.ifCond .eq 38, 3) := by decide +kernel
theorem dX10_many_7 : decode cX10_many 7 = .ok (.iload_n 2, 1) := by decide +kernel
theorem dX10_many_8 : decode cX10_many 8 = .ok (.i2l, 1) := by decide +kernel
theorem dX10_many_9 : decode cX10_many 9 = .ok (.lconst 0, 1) := by decide +kernel
theorem dX10_many_10 : decode cX10_many 10 = .ok (.ldc2_w 302, 3) := by decide +kernel
theorem dX10_many_13 : decode cX10_many 13 = .ok (.invokestatic 105, 3) := by decide +kernel
theorem dX10_many_16 : decode cX10_many 16 = .ok (.ifCond .eq 26, 3) := by decide +kernel
theorem dX10_many_19 : decode cX10_many 19 = .ok (.iload_n 3, 1) := by decide +kernel
theorem dX10_many_20 : decode cX10_many 20 = .ok (.i2l, 1) := by decide +kernel
theorem dX10_many_21 : decode cX10_many 21 = .ok (.lconst 1, 1) := by decide +kernel
theorem dX10_many_22 : decode cX10_many 22 = .ok (.ldc2_w 304, 3) := by decide +kernel
theorem dX10_many_25 : decode cX10_many 25 = .ok (.invokestatic 105, 3) := by decide +kernel
theorem dX10_many_28 : decode cX10_many 28 = .ok (.ifCond .eq 14, 3) := by decide +kernel
theorem dX10_many_31 : decode cX10_many 31 = .ok (.iload 4, 2) := by decide +kernel
theorem dX10_many_33 : decode cX10_many 33 = .ok (.i2l, 1) := by decide +kernel
theorem dX10_many_34 : decode cX10_many 34 = .ok (.lconst 0, 1) := by decide +kernel
theorem dX10_many_35 : decode cX10_many 35 = .ok (.lconst 1, 1) := by decide +kernel
theorem dX10_many_36 : decode cX10_many 36 = .ok (.invokestatic 105, 3) := by decide +kernel
theorem dX10_many_39 : decode cX10_many 39 = .ok (.ifCond .ne 10, 3) := by decide +kernel
theorem dX10_many_42 : decode cX10_many 42 = .ok (.aload_n 0, 1) := by decide +kernel
theorem dX10_many_43 : decode cX10_many 43 = .ok (.bipush (-10), 2) := by decide +kernel
theorem dX10_many_45 : decode cX10_many 45 = .ok (.invokevirtual 118, 3) := by decide +kernel
theorem dX10_many_48 : decode cX10_many 48 = .ok (.ireturn, 1) := by decide +kernel
theorem dX10_many_49 : decode cX10_many 49 = .ok (.iconst (-1), 1) := by decide +kernel
theorem dX10_many_50 : decode cX10_many 50 = .ok (.istore 5, 2) := by decide +kernel
theorem dX10_many_52 : decode cX10_many 52 = .ok (.iconst 0, 1) := by decide +kernel
theorem dX10_many_53 : decode cX10_many 53 = .ok (.istore 6, 2) := by decide +kernel
theorem dX10_many_55 : decode cX10_many 55 = .ok (.iload 6, 2) := by decide +kernel
theorem dX10_many_57 : decode cX10_many 57 = .ok (.sipush 999, 3) := by decide +kernel
theorem dX10_many_60 : decode cX10_many 60 = .ok (.if_icmp .gt 60, 3) := by decide +kernel
theorem dX10_many_63 : decode cX10_many 63 = .ok (.iload 6, 2) := by decide +kernel
theorem dX10_many_65 : decode cX10_many 65 = .ok (.iload_n 3, 1) := by decide +kernel
theorem dX10_many_66 : decode cX10_many 66 = .ok (.imul, 1) := by decide +kernel
theorem dX10_many_67 : decode cX10_many 67 = .ok (.aload_n 0, 1) := by decide +kernel
theorem dX10_many_68 : decode cX10_many 68 = .ok (.getfield 7, 3) := by decide +kernel
theorem dX10_many_71 : decode cX10_many 71 = .ok (.bipush 22, 2) := by decide +kernel
theorem dX10_many_73 : decode cX10_many 73 = .ok (.iload_n 1, 1) := by decide +kernel
theorem dX10_many_74 : decode cX10_many 74 = .ok (.iadd, 1) := by decide +kernel
theorem dX10_many_75 : decode cX10_many 75 = .ok (.iaload, 1) := by decide +kernel
theorem dX10_many_76 : decode cX10_many 76 = .ok (.idiv, 1) := by decide +kernel
theorem dX10_many_77 : decode cX10_many 77 = .ok (.iload_n 2, 1) := by decide +kernel
theorem dX10_many_78 : decode cX10_many 78 = .ok (.if_icmp .ne 7, 3) := by decide +kernel
theorem dX10_many_81 : decode cX10_many 81 = .ok (.iconst 1, 1) := by decide +kernel
theorem dX10_many_82 : decode cX10_many 82 = .ok (.goto 4, 3) := by decide +kernel
theorem dX10_many_85 : decode cX10_many 85 = .ok (.iconst 0, 1) := by decide +kernel
theorem dX10_many_86 : decode cX10_many 86 = .ok (.istore 7, 2) := by decide +kernel
theorem dX10_many_88 : decode cX10_many 88 = .ok (.iload 7, 2) := by decide +kernel
theorem dX10_many_90 : decode cX10_many 90 = .ok (.ifCond .eq 20, 3) := by decide +kernel
theorem dX10_many_93 : decode cX10_many 93 = .ok (.iload 4, 2) := by decide +kernel
theorem dX10_many_95 : decode cX10_many 95 = .ok (.iconst 1, 1) := by decide +kernel
theorem dX10_many_96 : decode cX10_many 96 = .ok (.if_icmp .eq 9, 3) := by decide +kernel
theorem dX10_many_99 : decode cX10_many 99 = .ok (.iload 5, 2) := by decide +kernel
theorem dX10_many_101 : decode cX10_many 101 = .ok (.iconst (-1), 1) := by decide +kernel
theorem dX10_many_102 : decode cX10_many 102 = .ok (.if_icmp .ne 8, 3) := by decide +kernel
theorem dX10_many_105 : decode cX10_many 105 = .ok (.iload 6, 2) := by decide +kernel
theorem dX10_many_107 : decode cX10_many 107 = .ok (.goto 5, 3) := by decide +kernel
theorem dX10_many_110 : decode cX10_many 110 = .ok (.iload 5, 2) := by decide +kernel
theorem dX10_many_112 : decode cX10_many 112 = .ok (.istore 5, 2) := by decide +kernel
theorem dX10_many_114 : decode cX10_many 114 = .ok (.iinc 6 1, 3) := by decide +kernel
theorem dX10_many_117 : decode cX10_many 117 = .ok (.goto (-62), 3) := by decide +kernel
theorem dX10_many_120 : decode cX10_many 120 = .ok (.iload 5, 2) := by decide +kernel
theorem dX10_many_122 : decode cX10_many 122 = .ok (.ireturn, 1) := by decide +kernel
theorem dX10_power_0 : decode cX10_power 0 = .ok (.lconst 1, 1) := by decide +kernel
theorem dX10_power_1 : decode cX10_power 1 = .ok (.lstore_n 3, 1) := by decide +kernel
theorem dX10_power_2 : decode cX10_power 2 = .ok (.iconst 0, 1) := by decide +kernel
theorem dX10_power_3 : decode cX10_power 3 = .ok (.istore 5, 2) := by decide +kernel
theorem dX10_power_5 : decode cX10_power 5 = .ok (.iload 5, 2) := by decide +kernel
theorem dX10_power_7 : decode cX10_power 7 = .ok (.iload_n 2, 1) := by decide +kernel
theorem dX10_power_8 : decode cX10_power 8 = .ok (.if_icmp .ge 13, 3) := by decide +kernel
theorem dX10_power_11 : decode cX10_power 11 = .ok (.lload_n 3, 1) := by decide +kernel
theorem dX10_power_12 : decode cX10_power 12 = .ok (.lload_n 0, 1) := by decide +kernel
theorem dX10_power_13 : decode cX10_power 13 = .ok (.lmul, 1) := by decide +kernel
theorem dX10_power_14 : decode cX10_power 14 = .ok (.lstore_n 3, 1) := by decide +kernel
theorem dX10_power_15 : decode cX10_power 15 = .ok (.iinc 5 1, 3) := by decide +kernel
theorem dX10_power_18 : decode cX10_power 18 = .ok (.goto (-13), 3) := by decide +kernel
theorem dX10_power_21 : decode cX10_power 21 = .ok (.lload_n 3, 1) := by decide +kernel
theorem dX10_power_22 : decode cX10_power 22 = .ok (.lreturn, 1) := by decide +kernel
theorem dX10_stone_0 : decode cX10_stone 0 = .ok (.iload_n 1, 1) := by decide +kernel
theorem dX10_stone_1 : decode cX10_stone 1 = .ok (.i2l, 1) := by decide +kernel
theorem dX10_stone_2 : decode cX10_stone 2 = .ok (.lconst 0, 1) := by decide +kernel
theorem dX10_stone_3 : decode cX10_stone 3 = .ok (.ldc2_w 209, 3) := by decide +kernel
theorem dX10_stone_6 : decode cX10_stone 6 = .ok (.invokestatic 105, 3) := by decide +kernel
theorem dX10_stone_9 : decode cX10_stone 9 = .ok (.ifCond .eq 52, 3) := by decide +kernel
theorem dX10_stone_12 : decode cX10_stone 12 = .ok (.iload_n 2, 1) := by decide +kernel
theorem dX10_stone_13 : decode cX10_stone 13 = .ok (.i2l, 1) := by decide +kernel
theorem dX10_stone_14 : decode cX10_stone 14 = .ok (.lconst 1, 1) := by decide +kernel
theorem dX10_stone_15 : decode cX10_stone 15 = .ok (.ldc2_w 306, 3) := by decide +kernel
theorem dX10_stone_18 : decode cX10_stone 18 = .ok (.invokestatic 105, 3) := by decide +kernel
theorem dX10_stone_21 : decode cX10_stone 21 = .ok (.ifCond .eq 40, 3) := by decide +kernel
theorem dX10_stone_24 : decode cX10_stone 24 = .ok (.iload_n 3, 1) := by decide +kernel
theorem dX10_stone_25 : decode cX10_stone 25 = .ok (.i2l, 1) := by decide +kernel
theorem dX10_stone_26 : decode cX10_stone 26 = .ok (.lconst 0, 1) := by decide +kernel
theorem dX10_stone_27 : decode cX10_stone 27 = .ok (.iload_n 2, 1) := by decide +kernel
theorem dX10_stone_28 : decode cX10_stone 28 = .ok (.i2l, 1) := by decide +kernel
theorem dX10_stone_29 : decode cX10_stone 29 = .ok (.invokestatic 105, 3) := by decide +kernel
theorem dX10_stone_32 : decode cX10_stone 32 = .ok (.ifCond .eq 29, 3) := by decide +kernel
theorem dX10_stone_35 : decode cX10_stone 35 = .ok (.iload 4, 2) := by decide +kernel
theorem dX10_stone_37 : decode cX10_stone 37 = .ok (.i2l, 1) := by decide +kernel
theorem dX10_stone_38 : decode cX10_stone 38 = .ok (.lconst 1, 1) := by decide +kernel
theorem dX10_stone_39 : decode cX10_stone 39 = .ok (.ldc2_w 125, 3) := by decide +kernel
theorem dX10_stone_42 : decode cX10_stone 42 = .ok (.invokestatic 105, 3) := by decide +kernel
theorem dX10_stone_45 : decode cX10_stone 45 = .ok (.ifCond .eq 16, 3) := by decide +kernel
theorem dX10_stone_48 : decode cX10_stone 48 = .ok (.iload 5, 2) := by decide +kernel
theorem dX10_stone_50 : decode cX10_stone 50 = .ok (.i2l, 1) := by decide +kernel
theorem dX10_stone_51 : decode cX10_stone 51 = .ok (.lconst 1, 1) := by decide +kernel
theorem dX10_stone_52 : decode cX10_stone 52 = .ok (.ldc2_w 125, 3) := by decide +kernel
theorem dX10_stone_55 : decode cX10_stone 55 = .ok (.invokestatic 105, 3) := by decide +kernel
theorem dX10_stone_58 : decode cX10_stone 58 = .ok (.ifCond .ne 10, 3) := by decide +kernel
theorem dX10_stone_61 : decode cX10_stone 61 = .ok (.aload_n 0, 1) := by decide +kernel
theorem dX10_stone_62 : decode cX10_stone 62 = .ok (.bipush (-2), 2) := by decide +kernel
theorem dX10_stone_64 : decode cX10_stone 64 = .ok (.invokevirtual 118, 3) := by decide +kernel
theorem dX10_stone_67 : decode cX10_stone 67 = .ok (.ireturn, 1) := by decide +kernel
theorem dX10_stone_68 : decode cX10_stone 68 = .ok (.iload_n 1, 1) := by decide +kernel
theorem dX10_stone_69 : decode cX10_stone 69 = .ok (.i2l, 1) := by decide +kernel
theorem dX10_stone_70 : decode cX10_stone 70 = .ok (.iload 5, 2) := by decide +kernel
theorem dX10_stone_72 : decode cX10_stone 72 = .ok (.i2l, 1) := by decide +kernel
theorem dX10_stone_73 : decode cX10_stone 73 = .ok (.iload_n 3, 1) := by decide +kernel
theorem dX10_stone_74 : decode cX10_stone 74 = .ok (.invokestatic 308, 3) := by decide +kernel
theorem dX10_stone_77 : decode cX10_stone 77 = .ok (.lmul, 1) := by decide +kernel
theorem dX10_stone_78 : decode cX10_stone 78 = .ok (.ldc2_w 209, 3) := by decide +kernel
theorem dX10_stone_81 : decode cX10_stone 81 = .ok (.iload 5, 2) := by decide +kernel
theorem dX10_stone_83 : decode cX10_stone 83 = .ok (.i2l, 1) := by decide +kernel
theorem dX10_stone_84 : decode cX10_stone 84 = .ok (.lsub, 1) := by decide +kernel
theorem dX10_stone_85 : decode cX10_stone 85 = .ok (.iload_n 2, 1) := by decide +kernel
theorem dX10_stone_86 : decode cX10_stone 86 = .ok (.iload_n 3, 1) := by decide +kernel
theorem dX10_stone_87 : decode cX10_stone 87 = .ok (.isub, 1) := by decide +kernel
theorem dX10_stone_88 : decode cX10_stone 88 = .ok (.invokestatic 308, 3) := by decide +kernel
theorem dX10_stone_91 : decode cX10_stone 91 = .ok (.lmul, 1) := by decide +kernel
theorem dX10_stone_92 : decode cX10_stone 92 = .ok (.lstore 6, 2) := by decide +kernel
theorem dX10_stone_94 : decode cX10_stone 94 = .ok (.bipush 10, 2) := by decide +kernel
theorem dX10_stone_96 : decode cX10_stone 96 = .ok (.iload_n 1, 1) := by decide +kernel
theorem dX10_stone_97 : decode cX10_stone 97 = .ok (.isub, 1) := by decide +kernel
theorem dX10_stone_98 : decode cX10_stone 98 = .ok (.i2l, 1) := by decide +kernel
theorem dX10_stone_99 : decode cX10_stone 99 = .ok (.iload 4, 2) := by decide +kernel
theorem dX10_stone_101 : decode cX10_stone 101 = .ok (.i2l, 1) := by decide +kernel
theorem dX10_stone_102 : decode cX10_stone 102 = .ok (.iload_n 3, 1) := by decide +kernel
theorem dX10_stone_103 : decode cX10_stone 103 = .ok (.invokestatic 308, 3) := by decide +kernel
theorem dX10_stone_106 : decode cX10_stone 106 = .ok (.lmul, 1) := by decide +kernel
theorem dX10_stone_107 : decode cX10_stone 107 = .ok (.ldc2_w 209, 3) := by decide +kernel
theorem dX10_stone_110 : decode cX10_stone 110 = .ok (.iload 4, 2) := by decide +kernel
theorem dX10_stone_112 : decode cX10_stone 112 = .ok (.i2l, 1) := by decide +kernel
theorem dX10_stone_113 : decode cX10_stone 113 = .ok (.lsub, 1) := by decide +kernel
theorem dX10_stone_114 : decode cX10_stone 114 = .ok (.iload_n 2, 1) := by decide +kernel
theorem dX10_stone_115 : decode cX10_stone 115 = .ok (.iload_n 3, 1) := by decide +kernel
theorem dX10_stone_116 : decode cX10_stone 116 = .ok (.isub, 1) := by decide +kernel
theorem dX10_stone_117 : decode cX10_stone 117 = .ok (.invokestatic 308, 3) := by decide +kernel
theorem dX10_stone_120 : decode cX10_stone 120 = .ok (.lmul, 1) := by decide +kernel
theorem dX10_stone_121 : decode cX10_stone 121 = .ok (.lstore 8, 2) := by decide +kernel
theorem dX10_stone_123 : decode cX10_stone 123 = .ok (.aload_n 0, 1) := by decide +kernel
theorem dX10_stone_124 : decode cX10_stone 124 = .ok (.lload 6, 2) := by decide +kernel
theorem dX10_stone_126 : decode cX10_stone 126 = .ok (.lload 6, 2) := by decide +kernel
theorem dX10_stone_128 : decode cX10_stone 128 = .ok (.lload 8, 2) := by decide +kernel
theorem dX10_stone_130 : decode cX10_stone 130 = .ok (.ladd, 1) := by decide +kernel
theorem dX10_stone_131 : decode cX10_stone 131 = .ok (.invokevirtual 312, 3) := by decide +kernel
theorem dX10_stone_134 : decode cX10_stone 134 = .ok (.ireturn, 1) := by decide +kernel
theorem dX10_days_0 : decode cX10_days 0 = .ok (.aload_n 0, 1) := by decide +kernel
theorem dX10_days_1 : decode cX10_days 1 = .ok (.iload_n 1, 1) := by decide +kernel
theorem dX10_days_2 : decode cX10_days 2 = .ok (.invokevirtual 194, 3) := by decide +kernel
theorem dX10_days_5 : decode cX10_days 5 = .ok (.ifCond .eq 28, 3) := by decide +kernel
theorem dX10_days_8 : decode cX10_days 8 = .ok (.aload_n 0, 1) := by decide +kernel
theorem dX10_days_9 : decode cX10_days 9 = .ok (.iload_n 2, 1) := by decide +kernel
theorem dX10_days_10 : decode cX10_days 10 = .ok (.invokevirtual 194, 3) := by decide +kernel
theorem dX10_days_13 : decode cX10_days 13 = .ok (.ifCond .eq 20, 3) := by decide +kernel
theorem dX10_days_16 : decode cX10_days 16 = .ok (.iload_n 1, 1) := by decide +kernel
theorem dX10_days_17 : decode cX10_days 17 = .ok (.iload_n 2, 1) := by decide +kernel
theorem dX10_days_18 : decode cX10_days 18 = .ok (.if_icmp .eq 15, 3) := by decide +kernel
theorem dX10_days_21 : decode cX10_days 21 = .ok (.iload_n 3, 1) := by decide +kernel
theorem dX10_days_22 : decode cX10_days 22 = .ok (.i2l, 1) := by decide +kernel
theorem dX10_days_23 : decode cX10_days 23 = .ok (.lconst 0, 1) := by decide +kernel
theorem dX10_days_24 : decode cX10_days 24 = .ok (.ldc2_w 302, 3) := by decide +kernel
theorem dX10_days_27 : decode cX10_days 27 = .ok (.invokestatic 105, 3) := by decide +kernel
theorem dX10_days_30 : decode cX10_days 30 = .ok (.ifCond .ne 10, 3) := by decide +kernel
theorem dX10_days_33 : decode cX10_days 33 = .ok (.aload_n 0, 1) := by decide +kernel
theorem dX10_days_34 : decode cX10_days 34 = .ok (.bipush (-2), 2) := by decide +kernel
theorem dX10_days_36 : decode cX10_days 36 = .ok (.invokevirtual 118, 3) := by decide +kernel
theorem dX10_days_39 : decode cX10_days 39 = .ok (.ireturn, 1) := by decide +kernel
theorem dX10_days_40 : decode cX10_days 40 = .ok (.aload_n 0, 1) := by decide +kernel
theorem dX10_days_41 : decode cX10_days 41 = .ok (.getfield 7, 3) := by decide +kernel
theorem dX10_days_44 : decode cX10_days 44 = .ok (.sipush 575, 3) := by decide +kernel
theorem dX10_days_47 : decode cX10_days 47 = .ok (.bipush 6, 2) := by decide +kernel
theorem dX10_days_49 : decode cX10_days 49 = .ok (.iload_n 1, 1) := by decide +kernel
theorem dX10_days_50 : decode cX10_days 50 = .ok (.imul, 1) := by decide +kernel
theorem dX10_days_51 : decode cX10_days 51 = .ok (.iadd, 1) := by decide +kernel
theorem dX10_days_52 : decode cX10_days 52 = .ok (.iload_n 2, 1) := by decide +kernel
theorem dX10_days_53 : decode cX10_days 53 = .ok (.iadd, 1) := by decide +kernel
theorem dX10_days_54 : decode cX10_days 54 = .ok (.iaload, 1) := by decide +kernel
theorem dX10_days_55 : decode cX10_days 55 = .ok (.istore 4, 2) := by decide +kernel
theorem dX10_days_57 : decode cX10_days 57 = .ok (.aload_n 0, 1) := by decide +kernel
theorem dX10_days_58 : decode cX10_days 58 = .ok (.getfield 7, 3) := by decide +kernel
theorem dX10_days_61 : decode cX10_days 61 = .ok (.sipush 575, 3) := by decide +kernel
theorem dX10_days_64 : decode cX10_days 64 = .ok (.bipush 6, 2) := by decide +kernel
theorem dX10_days_66 : decode cX10_days 66 = .ok (.iload_n 1, 1) := by decide +kernel
theorem dX10_days_67 : decode cX10_days 67 = .ok (.imul, 1) := by decide +kernel
theorem dX10_days_68 : decode cX10_days 68 = .ok (.iadd, 1) := by decide +kernel
theorem dX10_days_69 : decode cX10_days 69 = .ok (.iload_n 2, 1) := by decide +kernel
theorem dX10_days_70 : decode cX10_days 70 = .ok (.iadd, 1) := by decide +kernel
theorem dX10_days_71 : decode cX10_days 71 = .ok (.iload_n 3, 1) := by decide +kernel
theorem dX10_days_72 : decode cX10_days 72 = .ok (.iastore, 1) := by decide +kernel
theorem dX10_days_73 : decode cX10_days 73 = .ok (.aload_n 0, 1) := by decide +kernel
theorem dX10_days_74 : decode cX10_days 74 = .ok (.getfield 7, 3) := by decide +kernel
theorem dX10_days_77 : decode cX10_days 77 = .ok (.sipush 575, 3) := by decide +kernel
theorem dX10_days_80 : decode cX10_days 80 = .ok (.bipush 6, 2) := by decide +kernel
theorem dX10_days_82 : decode cX10_days 82 = .ok (.iload_n 2, 1) := by decide +kernel
theorem dX10_days_83 : decode cX10_days 83 = .ok (.imul, 1) := by decide +kernel
theorem dX10_days_84 : decode cX10_days 84 = .ok (.iadd, 1) := by decide +kernel
theorem dX10_days_85 : decode cX10_days 85 = .ok (.iload_n 1, 1) := by decide +kernel
theorem dX10_days_86 : decode cX10_days 86 = .ok (.iadd, 1) := by decide +kernel
theorem dX10_days_87 : decode cX10_days 87 = .ok (.iload_n 3, 1) := by decide +kernel
theorem dX10_days_88 : decode cX10_days 88 = .ok (.iastore, 1) := by decide +kernel
theorem dX10_days_89 : decode cX10_days 89 = .ok (.iload 4, 2) := by decide +kernel
theorem dX10_days_91 : decode cX10_days 91 = .ok (.ireturn, 1) := by decide +kernel
theorem dX10_isDay_0 : decode cX10_isDay 0 = .ok (.iload_n 0, 1) := by decide +kernel
theorem dX10_isDay_1 : decode cX10_isDay 1 = .ok (.i2l, 1) := by decide +kernel
theorem dX10_isDay_2 : decode cX10_isDay 2 = .ok (.lconst 0, 1) := by decide +kernel
theorem dX10_isDay_3 : decode cX10_isDay 3 = .ok (.ldc2_w 316, 3) := by decide +kernel
theorem dX10_isDay_6 : decode cX10_isDay 6 = .ok (.invokestatic 105, 3) := by decide +kernel
theorem dX10_isDay_9 : decode cX10_isDay 9 = .ok (.ireturn, 1) := by decide +kernel
theorem dX10_storm_0 : decode cX10_storm 0 = .ok (.iload_n 1, 1) := by decide +kernel
theorem dX10_storm_1 : decode cX10_storm 1 = .ok (.invokestatic 318, 3) := by decide +kernel
theorem dX10_storm_4 : decode cX10_storm 4 = .ok (.ifCond .ne 10, 3) := by decide +kernel
theorem dX10_storm_7 : decode cX10_storm 7 = .ok (.aload_n 0, 1) := by decide +kernel
theorem dX10_storm_8 : decode cX10_storm 8 = .ok (.bipush (-2), 2) := by decide +kernel
theorem dX10_storm_10 : decode cX10_storm 10 = .ok (.invokevirtual 118, 3) := by decide +kernel
theorem dX10_storm_13 : decode cX10_storm 13 = .ok (.ireturn, 1) := by decide +kernel
theorem dX10_storm_14 : decode cX10_storm 14 = .ok (.aload_n 0, 1) := by decide +kernel
theorem dX10_storm_15 : decode cX10_storm 15 = .ok (.getfield 7, 3) := by decide +kernel
theorem dX10_storm_18 : decode cX10_storm 18 = .ok (.sipush 611, 3) := by decide +kernel
theorem dX10_storm_21 : decode cX10_storm 21 = .ok (.iload_n 1, 1) := by decide +kernel
theorem dX10_storm_22 : decode cX10_storm 22 = .ok (.iadd, 1) := by decide +kernel
theorem dX10_storm_23 : decode cX10_storm 23 = .ok (.iaload, 1) := by decide +kernel
theorem dX10_storm_24 : decode cX10_storm 24 = .ok (.iload_n 2, 1) := by decide +kernel
theorem dX10_storm_25 : decode cX10_storm 25 = .ok (.ifCond .eq 7, 3) := by decide +kernel
theorem dX10_storm_28 : decode cX10_storm 28 = .ok (.iconst 1, 1) := by decide +kernel
theorem dX10_storm_29 : decode cX10_storm 29 = .ok (.goto 4, 3) := by decide +kernel
theorem dX10_storm_32 : decode cX10_storm 32 = .ok (.iconst 0, 1) := by decide +kernel
theorem dX10_storm_33 : decode cX10_storm 33 = .ok (.if_icmp .ne 8, 3) := by decide +kernel
theorem dX10_storm_36 : decode cX10_storm 36 = .ok (.aload_n 0, 1) := by decide +kernel
theorem dX10_storm_37 : decode cX10_storm 37 = .ok (.invokevirtual 286, 3) := by decide +kernel
theorem dX10_storm_40 : decode cX10_storm 40 = .ok (.ireturn, 1) := by decide +kernel
theorem dX10_storm_41 : decode cX10_storm 41 = .ok (.aload_n 0, 1) := by decide +kernel
theorem dX10_storm_42 : decode cX10_storm 42 = .ok (.getfield 7, 3) := by decide +kernel
theorem dX10_storm_45 : decode cX10_storm 45 = .ok (.sipush 611, 3) := by decide +kernel
theorem dX10_storm_48 : decode cX10_storm 48 = .ok (.iload_n 1, 1) := by decide +kernel
theorem dX10_storm_49 : decode cX10_storm 49 = .ok (.iadd, 1) := by decide +kernel
theorem dX10_storm_50 : decode cX10_storm 50 = .ok (.iload_n 2, 1) := by decide +kernel
theorem dX10_storm_51 : decode cX10_storm 51 = .ok (.ifCond .eq 7, 3) := by decide +kernel
theorem dX10_storm_54 : decode cX10_storm 54 = .ok (.iconst 1, 1) := by decide +kernel
theorem dX10_storm_55 : decode cX10_storm 55 = .ok (.goto 4, 3) := by decide +kernel
theorem dX10_storm_58 : decode cX10_storm 58 = .ok (.iconst 0, 1) := by decide +kernel
theorem dX10_storm_59 : decode cX10_storm 59 = .ok (.iastore, 1) := by decide +kernel
theorem dX10_storm_60 : decode cX10_storm 60 = .ok (.iconst 1, 1) := by decide +kernel
theorem dX10_storm_61 : decode cX10_storm 61 = .ok (.ireturn, 1) := by decide +kernel
theorem dX10_dayBehind_0 : decode cX10_dayBehind 0 = .ok (.iload_n 1, 1) := by decide +kernel
theorem dX10_dayBehind_1 : decode cX10_dayBehind 1 = .ok (.istore_n 3, 1) := by decide +kernel
theorem dX10_dayBehind_2 : decode cX10_dayBehind 2 = .ok (.iload_n 2, 1) := by decide +kernel
theorem dX10_dayBehind_3 : decode cX10_dayBehind 3 = .ok (.istore 4, 2) := by decide +kernel
theorem dX10_dayBehind_5 : decode cX10_dayBehind 5 = .ok (.iload 4, 2) := by decide +kernel
theorem dX10_dayBehind_7 : decode cX10_dayBehind 7 = .ok (.ifCond .le 38, 3) := by decide +kernel
theorem dX10_dayBehind_10 : decode cX10_dayBehind 10 = .ok (.iload 4, 2) := by decide +kernel
theorem dX10_dayBehind_12 : decode cX10_dayBehind 12 = .ok (.iload_n 3, 1) := by decide +kernel
theorem dX10_dayBehind_13 : decode cX10_dayBehind 13 = .ok (.bipush 59, 2) := by decide +kernel
theorem dX10_dayBehind_15 : decode cX10_dayBehind 15 = .ok (.if_icmp .gt 16, 3) := by decide +kernel
theorem dX10_dayBehind_18 : decode cX10_dayBehind 18 = .ok (.aload_n 0, 1) := by decide +kernel
theorem dX10_dayBehind_19 : decode cX10_dayBehind 19 = .ok (.getfield 7, 3) := by decide +kernel
theorem dX10_dayBehind_22 : decode cX10_dayBehind 22 = .ok (.sipush 611, 3) := by decide +kernel
theorem dX10_dayBehind_25 : decode cX10_dayBehind 25 = .ok (.iload_n 3, 1) := by decide +kernel
theorem dX10_dayBehind_26 : decode cX10_dayBehind 26 = .ok (.iadd, 1) := by decide +kernel
theorem dX10_dayBehind_27 : decode cX10_dayBehind 27 = .ok (.iaload, 1) := by decide +kernel
theorem dX10_dayBehind_28 : decode cX10_dayBehind 28 = .ok (.ifCond .ne 7, 3) := by decide +kernel
theorem dX10_dayBehind_31 : decode cX10_dayBehind 31 = .ok (.iconst 1, 1) := by decide +kernel
theorem dX10_dayBehind_32 : decode cX10_dayBehind 32 = .ok (.goto 4, 3) := by decide +kernel
theorem dX10_dayBehind_35 : decode cX10_dayBehind 35 = .ok (.iconst 0, 1) := by decide +kernel
theorem dX10_dayBehind_36 : decode cX10_dayBehind 36 = .ok (.isub, 1) := by decide +kernel
theorem dX10_dayBehind_37 : decode cX10_dayBehind 37 = .ok (.istore 4, 2) := by decide +kernel
theorem dX10_dayBehind_39 : decode cX10_dayBehind 39 = .ok (.iinc 3 1, 3) := by decide +kernel
theorem dX10_dayBehind_42 : decode cX10_dayBehind 42 = .ok (.goto (-37), 3) := by decide +kernel
theorem dX10_dayBehind_45 : decode cX10_dayBehind 45 = .ok (.iload_n 3, 1) := by decide +kernel
theorem dX10_dayBehind_46 : decode cX10_dayBehind 46 = .ok (.ireturn, 1) := by decide +kernel
theorem dX10_sailsTo_0 : decode cX10_sailsTo 0 = .ok (.iconst 0, 1) := by decide +kernel
theorem dX10_sailsTo_1 : decode cX10_sailsTo 1 = .ok (.istore 4, 2) := by decide +kernel
theorem dX10_sailsTo_3 : decode cX10_sailsTo 3 = .ok (.iload 4, 2) := by decide +kernel
theorem dX10_sailsTo_5 : decode cX10_sailsTo 5 = .ok (.bipush 6, 2) := by decide +kernel
theorem dX10_sailsTo_7 : decode cX10_sailsTo 7 = .ok (.if_icmp .ge 27, 3) := by decide +kernel
theorem dX10_sailsTo_10 : decode cX10_sailsTo 10 = .ok (.aload_n 0, 1) := by decide +kernel
theorem dX10_sailsTo_11 : decode cX10_sailsTo 11 = .ok (.getfield 48, 3) := by decide +kernel
theorem dX10_sailsTo_14 : decode cX10_sailsTo 14 = .ok (.iload 4, 2) := by decide +kernel
theorem dX10_sailsTo_16 : decode cX10_sailsTo 16 = .ok (.iload 4, 2) := by decide +kernel
theorem dX10_sailsTo_18 : decode cX10_sailsTo 18 = .ok (.iload_n 1, 1) := by decide +kernel
theorem dX10_sailsTo_19 : decode cX10_sailsTo 19 = .ok (.if_icmp .ne 7, 3) := by decide +kernel
theorem dX10_sailsTo_22 : decode cX10_sailsTo 22 = .ok (.iload_n 3, 1) := by decide +kernel
theorem dX10_sailsTo_23 : decode cX10_sailsTo 23 = .ok (.goto 4, 3) := by decide +kernel
theorem dX10_sailsTo_26 : decode cX10_sailsTo 26 = .ok (.iconst (-1), 1) := by decide +kernel
theorem dX10_sailsTo_27 : decode cX10_sailsTo 27 = .ok (.iastore, 1) := by decide +kernel
theorem dX10_sailsTo_28 : decode cX10_sailsTo 28 = .ok (.iinc 4 1, 3) := by decide +kernel
theorem dX10_sailsTo_31 : decode cX10_sailsTo 31 = .ok (.goto (-28), 3) := by decide +kernel
theorem dX10_sailsTo_34 : decode cX10_sailsTo 34 = .ok (.iconst 0, 1) := by decide +kernel
theorem dX10_sailsTo_35 : decode cX10_sailsTo 35 = .ok (.istore 4, 2) := by decide +kernel
theorem dX10_sailsTo_37 : decode cX10_sailsTo 37 = .ok (.iload 4, 2) := by decide +kernel
theorem dX10_sailsTo_39 : decode cX10_sailsTo 39 = .ok (.bipush 6, 2) := by decide +kernel
theorem dX10_sailsTo_41 : decode cX10_sailsTo 41 = .ok (.if_icmp .ge 147, 3) := by decide +kernel
theorem dX10_sailsTo_44 : decode cX10_sailsTo 44 = .ok (.iconst 0, 1) := by decide +kernel
theorem dX10_sailsTo_45 : decode cX10_sailsTo 45 = .ok (.istore 5, 2) := by decide +kernel
theorem dX10_sailsTo_47 : decode cX10_sailsTo 47 = .ok (.iload 5, 2) := by decide +kernel
theorem dX10_sailsTo_49 : decode cX10_sailsTo 49 = .ok (.aload_n 0, 1) := by decide +kernel
theorem dX10_sailsTo_50 : decode cX10_sailsTo 50 = .ok (.invokevirtual 101, 3) := by decide +kernel
theorem dX10_sailsTo_53 : decode cX10_sailsTo 53 = .ok (.if_icmp .ge 129, 3) := by decide +kernel
theorem dX10_sailsTo_56 : decode cX10_sailsTo 56 = .ok (.iconst 0, 1) := by decide +kernel
theorem dX10_sailsTo_57 : decode cX10_sailsTo 57 = .ok (.istore 6, 2) := by decide +kernel
theorem dX10_sailsTo_59 : decode cX10_sailsTo 59 = .ok (.iload 6, 2) := by decide +kernel
theorem dX10_sailsTo_61 : decode cX10_sailsTo 61 = .ok (.aload_n 0, 1) := by decide +kernel
theorem dX10_sailsTo_62 : decode cX10_sailsTo 62 = .ok (.invokevirtual 101, 3) := by decide +kernel
theorem dX10_sailsTo_65 : decode cX10_sailsTo 65 = .ok (.if_icmp .ge 111, 3) := by decide +kernel
theorem dX10_sailsTo_68 : decode cX10_sailsTo 68 = .ok (.aload_n 0, 1) := by decide +kernel
theorem dX10_sailsTo_69 : decode cX10_sailsTo 69 = .ok (.getfield 48, 3) := by decide +kernel
theorem dX10_sailsTo_72 : decode cX10_sailsTo 72 = .ok (.iload 5, 2) := by decide +kernel
theorem dX10_sailsTo_74 : decode cX10_sailsTo 74 = .ok (.iaload, 1) := by decide +kernel
theorem dX10_sailsTo_75 : decode cX10_sailsTo 75 = .ok (.iconst (-1), 1) := by decide +kernel
theorem dX10_sailsTo_76 : decode cX10_sailsTo 76 = .ok (.if_icmp .eq 100, 3) := by decide +kernel
theorem dX10_sailsTo_79 : decode cX10_sailsTo 79 = .ok (.aload_n 0, 1) := by decide +kernel
theorem dX10_sailsTo_80 : decode cX10_sailsTo 80 = .ok (.getfield 7, 3) := by decide +kernel
theorem dX10_sailsTo_83 : decode cX10_sailsTo 83 = .ok (.sipush 575, 3) := by decide +kernel
theorem dX10_sailsTo_86 : decode cX10_sailsTo 86 = .ok (.bipush 6, 2) := by decide +kernel
theorem dX10_sailsTo_88 : decode cX10_sailsTo 88 = .ok (.iload 5, 2) := by decide +kernel
theorem dX10_sailsTo_90 : decode cX10_sailsTo 90 = .ok (.imul, 1) := by decide +kernel
theorem dX10_sailsTo_91 : decode cX10_sailsTo 91 = .ok (.iadd, 1) := by decide +kernel
theorem dX10_sailsTo_92 : decode cX10_sailsTo 92 = .ok (.iload 6, 2) := by decide +kernel
theorem dX10_sailsTo_94 : decode cX10_sailsTo 94 = .ok (.iadd, 1) := by decide +kernel
theorem dX10_sailsTo_95 : decode cX10_sailsTo 95 = .ok (.iaload, 1) := by decide +kernel
theorem dX10_sailsTo_96 : decode cX10_sailsTo 96 = .ok (.istore 7, 2) := by decide +kernel
theorem dX10_sailsTo_98 : decode cX10_sailsTo 98 = .ok (.iload 7, 2) := by decide +kernel
theorem dX10_sailsTo_100 : decode cX10_sailsTo 100 = .ok (.ifCond .ne 7, 3) := by decide +kernel
theorem dX10_sailsTo_103 : decode cX10_sailsTo 103 = .ok (.iconst (-1), 1) := by decide +kernel
theorem dX10_sailsTo_104 : decode cX10_sailsTo 104 = .ok (.goto 16, 3) := by decide +kernel
theorem dX10_sailsTo_107 : decode cX10_sailsTo 107 = .ok (.aload_n 0, 1) := by decide +kernel
theorem dX10_sailsTo_108 : decode cX10_sailsTo 108 = .ok (.aload_n 0, 1) := by decide +kernel
theorem dX10_sailsTo_109 : decode cX10_sailsTo 109 = .ok (.getfield 48, 3) := by decide +kernel
theorem dX10_sailsTo_112 : decode cX10_sailsTo 112 = .ok (.iload 5, 2) := by decide +kernel
theorem dX10_sailsTo_114 : decode cX10_sailsTo 114 = .ok (.iaload, 1) := by decide +kernel
theorem dX10_sailsTo_115 : decode cX10_sailsTo 115 = .ok (.iload 7, 2) := by decide +kernel
theorem dX10_sailsTo_117 : decode cX10_sailsTo 117 = .ok (.invokevirtual 321, 3) := by decide +kernel
theorem dX10_sailsTo_120 : decode cX10_sailsTo 120 = .ok (.istore 8, 2) := by decide +kernel
theorem dX10_sailsTo_122 : decode cX10_sailsTo 122 = .ok (.aload_n 0, 1) := by decide +kernel
theorem dX10_sailsTo_123 : decode cX10_sailsTo 123 = .ok (.getfield 48, 3) := by decide +kernel
theorem dX10_sailsTo_126 : decode cX10_sailsTo 126 = .ok (.iload 6, 2) := by decide +kernel
theorem dX10_sailsTo_128 : decode cX10_sailsTo 128 = .ok (.iload 8, 2) := by decide +kernel
theorem dX10_sailsTo_130 : decode cX10_sailsTo 130 = .ok (.iconst (-1), 1) := by decide +kernel
theorem dX10_sailsTo_131 : decode cX10_sailsTo 131 = .ok (.if_icmp .eq 31, 3) := by decide +kernel
theorem dX10_sailsTo_134 : decode cX10_sailsTo 134 = .ok (.aload_n 0, 1) := by decide +kernel
theorem dX10_sailsTo_135 : decode cX10_sailsTo 135 = .ok (.getfield 48, 3) := by decide +kernel
theorem dX10_sailsTo_138 : decode cX10_sailsTo 138 = .ok (.iload 6, 2) := by decide +kernel
theorem dX10_sailsTo_140 : decode cX10_sailsTo 140 = .ok (.iaload, 1) := by decide +kernel
theorem dX10_sailsTo_141 : decode cX10_sailsTo 141 = .ok (.iconst (-1), 1) := by decide +kernel
theorem dX10_sailsTo_142 : decode cX10_sailsTo 142 = .ok (.if_icmp .eq 15, 3) := by decide +kernel
theorem dX10_sailsTo_145 : decode cX10_sailsTo 145 = .ok (.iload 8, 2) := by decide +kernel
theorem dX10_sailsTo_147 : decode cX10_sailsTo 147 = .ok (.aload_n 0, 1) := by decide +kernel
theorem dX10_sailsTo_148 : decode cX10_sailsTo 148 = .ok (.getfield 48, 3) := by decide +kernel
theorem dX10_sailsTo_151 : decode cX10_sailsTo 151 = .ok (.iload 6, 2) := by decide +kernel
theorem dX10_sailsTo_153 : decode cX10_sailsTo 153 = .ok (.iaload, 1) := by decide +kernel
theorem dX10_sailsTo_154 : decode cX10_sailsTo 154 = .ok (.if_icmp .ge 8, 3) := by decide +kernel
theorem dX10_sailsTo_157 : decode cX10_sailsTo 157 = .ok (.iload 8, 2) := by decide +kernel
theorem dX10_sailsTo_159 : decode cX10_sailsTo 159 = .ok (.goto 10, 3) := by decide +kernel
theorem dX10_sailsTo_162 : decode cX10_sailsTo 162 = .ok (.aload_n 0, 1) := by decide +kernel
theorem dX10_sailsTo_163 : decode cX10_sailsTo 163 = .ok (.getfield 48, 3) := by decide +kernel
theorem dX10_sailsTo_166 : decode cX10_sailsTo 166 = .ok (.iload 6, 2) := by decide +kernel
theorem dX10_sailsTo_168 : decode cX10_sailsTo 168 = .ok (.iaload, 1) := by decide +kernel
theorem dX10_sailsTo_169 : decode cX10_sailsTo 169 = .ok (.iastore, 1) := by decide +kernel
theorem dX10_sailsTo_170 : decode cX10_sailsTo 170 = .ok (.iinc 6 1, 3) := by decide +kernel
theorem dX10_sailsTo_173 : decode cX10_sailsTo 173 = .ok (.goto (-114), 3) := by decide +kernel
theorem dX10_sailsTo_176 : decode cX10_sailsTo 176 = .ok (.iinc 5 1, 3) := by decide +kernel
theorem dX10_sailsTo_179 : decode cX10_sailsTo 179 = .ok (.goto (-132), 3) := by decide +kernel
theorem dX10_sailsTo_182 : decode cX10_sailsTo 182 = .ok (.iinc 4 1, 3) := by decide +kernel
theorem dX10_sailsTo_185 : decode cX10_sailsTo 185 = .ok (.goto (-148), 3) := by decide +kernel
theorem dX10_sailsTo_188 : decode cX10_sailsTo 188 = .ok (.aload_n 0, 1) := by decide +kernel
theorem dX10_sailsTo_189 : decode cX10_sailsTo 189 = .ok (.getfield 48, 3) := by decide +kernel
theorem dX10_sailsTo_192 : decode cX10_sailsTo 192 = .ok (.iload_n 2, 1) := by decide +kernel
theorem dX10_sailsTo_193 : decode cX10_sailsTo 193 = .ok (.iaload, 1) := by decide +kernel
theorem dX10_sailsTo_194 : decode cX10_sailsTo 194 = .ok (.ireturn, 1) := by decide +kernel
theorem dX10_sails_0 : decode cX10_sails 0 = .ok (.aload_n 0, 1) := by decide +kernel
theorem dX10_sails_1 : decode cX10_sails 1 = .ok (.iload_n 1, 1) := by decide +kernel
theorem dX10_sails_2 : decode cX10_sails 2 = .ok (.invokevirtual 194, 3) := by decide +kernel
theorem dX10_sails_5 : decode cX10_sails 5 = .ok (.ifCond .eq 28, 3) := by decide +kernel
theorem dX10_sails_8 : decode cX10_sails 8 = .ok (.aload_n 0, 1) := by decide +kernel
theorem dX10_sails_9 : decode cX10_sails 9 = .ok (.iload_n 2, 1) := by decide +kernel
theorem dX10_sails_10 : decode cX10_sails 10 = .ok (.invokevirtual 194, 3) := by decide +kernel
theorem dX10_sails_13 : decode cX10_sails 13 = .ok (.ifCond .eq 20, 3) := by decide +kernel
theorem dX10_sails_16 : decode cX10_sails 16 = .ok (.iload_n 3, 1) := by decide +kernel
theorem dX10_sails_17 : decode cX10_sails 17 = .ok (.invokestatic 318, 3) := by decide +kernel
theorem dX10_sails_20 : decode cX10_sails 20 = .ok (.ifCond .eq 13, 3) := by decide +kernel
theorem dX10_sails_23 : decode cX10_sails 23 = .ok (.aload_n 0, 1) := by decide +kernel
theorem dX10_sails_24 : decode cX10_sails 24 = .ok (.iload_n 1, 1) := by decide +kernel
theorem dX10_sails_25 : decode cX10_sails 25 = .ok (.iload_n 2, 1) := by decide +kernel
theorem dX10_sails_26 : decode cX10_sails 26 = .ok (.iload_n 3, 1) := by decide +kernel
theorem dX10_sails_27 : decode cX10_sails 27 = .ok (.invokevirtual 324, 3) := by decide +kernel
theorem dX10_sails_30 : decode cX10_sails 30 = .ok (.goto 9, 3) := by decide +kernel
theorem dX10_sails_33 : decode cX10_sails 33 = .ok (.aload_n 0, 1) := by decide +kernel
theorem dX10_sails_34 : decode cX10_sails 34 = .ok (.bipush (-10), 2) := by decide +kernel
theorem dX10_sails_36 : decode cX10_sails 36 = .ok (.invokevirtual 118, 3) := by decide +kernel
theorem dX10_sails_39 : decode cX10_sails 39 = .ok (.ireturn, 1) := by decide +kernel
theorem dX10_back_0 : decode cX10_back 0 = .ok (.aload_n 0, 1) := by decide +kernel
theorem dX10_back_1 : decode cX10_back 1 = .ok (.iload_n 1, 1) := by decide +kernel
theorem dX10_back_2 : decode cX10_back 2 = .ok (.invokevirtual 194, 3) := by decide +kernel
theorem dX10_back_5 : decode cX10_back 5 = .ok (.ifCond .eq 44, 3) := by decide +kernel
theorem dX10_back_8 : decode cX10_back 8 = .ok (.aload_n 0, 1) := by decide +kernel
theorem dX10_back_9 : decode cX10_back 9 = .ok (.iload_n 2, 1) := by decide +kernel
theorem dX10_back_10 : decode cX10_back 10 = .ok (.invokevirtual 194, 3) := by decide +kernel
theorem dX10_back_13 : decode cX10_back 13 = .ok (.ifCond .eq 36, 3) := by decide +kernel
theorem dX10_back_16 : decode cX10_back 16 = .ok (.iload_n 3, 1) := by decide +kernel
theorem dX10_back_17 : decode cX10_back 17 = .ok (.invokestatic 318, 3) := by decide +kernel
theorem dX10_back_20 : decode cX10_back 20 = .ok (.ifCond .eq 29, 3) := by decide +kernel
theorem dX10_back_23 : decode cX10_back 23 = .ok (.iload 4, 2) := by decide +kernel
theorem dX10_back_25 : decode cX10_back 25 = .ok (.i2l, 1) := by decide +kernel
theorem dX10_back_26 : decode cX10_back 26 = .ok (.lconst 0, 1) := by decide +kernel
theorem dX10_back_27 : decode cX10_back 27 = .ok (.ldc2_w 316, 3) := by decide +kernel
theorem dX10_back_30 : decode cX10_back 30 = .ok (.invokestatic 105, 3) := by decide +kernel
theorem dX10_back_33 : decode cX10_back 33 = .ok (.ifCond .eq 16, 3) := by decide +kernel
theorem dX10_back_36 : decode cX10_back 36 = .ok (.iload 5, 2) := by decide +kernel
theorem dX10_back_38 : decode cX10_back 38 = .ok (.i2l, 1) := by decide +kernel
theorem dX10_back_39 : decode cX10_back 39 = .ok (.lconst 0, 1) := by decide +kernel
theorem dX10_back_40 : decode cX10_back 40 = .ok (.ldc2_w 132, 3) := by decide +kernel
theorem dX10_back_43 : decode cX10_back 43 = .ok (.invokestatic 105, 3) := by decide +kernel
theorem dX10_back_46 : decode cX10_back 46 = .ok (.ifCond .ne 10, 3) := by decide +kernel
theorem dX10_back_49 : decode cX10_back 49 = .ok (.aload_n 0, 1) := by decide +kernel
theorem dX10_back_50 : decode cX10_back 50 = .ok (.bipush (-2), 2) := by decide +kernel
theorem dX10_back_52 : decode cX10_back 52 = .ok (.invokevirtual 118, 3) := by decide +kernel
theorem dX10_back_55 : decode cX10_back 55 = .ok (.ireturn, 1) := by decide +kernel
theorem dX10_back_56 : decode cX10_back 56 = .ok (.aload_n 0, 1) := by decide +kernel
theorem dX10_back_57 : decode cX10_back 57 = .ok (.iload_n 1, 1) := by decide +kernel
theorem dX10_back_58 : decode cX10_back 58 = .ok (.iload_n 2, 1) := by decide +kernel
theorem dX10_back_59 : decode cX10_back 59 = .ok (.iload_n 3, 1) := by decide +kernel
theorem dX10_back_60 : decode cX10_back 60 = .ok (.invokevirtual 324, 3) := by decide +kernel
theorem dX10_back_63 : decode cX10_back 63 = .ok (.istore 6, 2) := by decide +kernel
theorem dX10_back_65 : decode cX10_back 65 = .ok (.iload 6, 2) := by decide +kernel
theorem dX10_back_67 : decode cX10_back 67 = .ok (.iconst (-1), 1) := by decide +kernel
theorem dX10_back_68 : decode cX10_back 68 = .ok (.if_icmp .ne 5, 3) := by decide +kernel
theorem dX10_back_71 : decode cX10_back 71 = .ok (.iconst 0, 1) := by decide +kernel
theorem dX10_back_72 : decode cX10_back 72 = .ok (.ireturn, 1) := by decide +kernel
theorem dX10_back_73 : decode cX10_back 73 = .ok (.aload_n 0, 1) := by decide +kernel
theorem dX10_back_74 : decode cX10_back 74 = .ok (.iload_n 2, 1) := by decide +kernel
theorem dX10_back_75 : decode cX10_back 75 = .ok (.iload_n 1, 1) := by decide +kernel
theorem dX10_back_76 : decode cX10_back 76 = .ok (.iload 6, 2) := by decide +kernel
theorem dX10_back_78 : decode cX10_back 78 = .ok (.iload 4, 2) := by decide +kernel
theorem dX10_back_80 : decode cX10_back 80 = .ok (.iadd, 1) := by decide +kernel
theorem dX10_back_81 : decode cX10_back 81 = .ok (.invokevirtual 324, 3) := by decide +kernel
theorem dX10_back_84 : decode cX10_back 84 = .ok (.iload 5, 2) := by decide +kernel
theorem dX10_back_86 : decode cX10_back 86 = .ok (.if_icmp .gt 7, 3) := by decide +kernel
theorem dX10_back_89 : decode cX10_back 89 = .ok (.iconst 1, 1) := by decide +kernel
theorem dX10_back_90 : decode cX10_back 90 = .ok (.goto 4, 3) := by decide +kernel
theorem dX10_back_93 : decode cX10_back 93 = .ok (.iconst 0, 1) := by decide +kernel
theorem dX10_back_94 : decode cX10_back 94 = .ok (.ireturn, 1) := by decide +kernel
theorem dX10_part_0 : decode cX10_part 0 = .ok (.iload_n 1, 1) := by decide +kernel
theorem dX10_part_1 : decode cX10_part 1 = .ok (.ifCond .ne 10, 3) := by decide +kernel
theorem dX10_part_4 : decode cX10_part 4 = .ok (.aload_n 0, 1) := by decide +kernel
theorem dX10_part_5 : decode cX10_part 5 = .ok (.getfield 87, 3) := by decide +kernel
theorem dX10_part_8 : decode cX10_part 8 = .ok (.goto 37, 3) := by decide +kernel
theorem dX10_part_11 : decode cX10_part 11 = .ok (.iload_n 1, 1) := by decide +kernel
theorem dX10_part_12 : decode cX10_part 12 = .ok (.iconst 1, 1) := by decide +kernel
theorem dX10_part_13 : decode cX10_part 13 = .ok (.if_icmp .ne 12, 3) := by decide +kernel
theorem dX10_part_16 : decode cX10_part 16 = .ok (.aload_n 0, 1) := by decide +kernel
theorem dX10_part_17 : decode cX10_part 17 = .ok (.getfield 27, 3) := by decide +kernel
theorem dX10_part_20 : decode cX10_part 20 = .ok (.iconst 0, 1) := by decide +kernel
theorem dX10_part_21 : decode cX10_part 21 = .ok (.iaload, 1) := by decide +kernel
theorem dX10_part_22 : decode cX10_part 22 = .ok (.goto 23, 3) := by decide +kernel
theorem dX10_part_25 : decode cX10_part 25 = .ok (.iload_n 1, 1) := by decide +kernel
theorem dX10_part_26 : decode cX10_part 26 = .ok (.iconst 2, 1) := by decide +kernel
theorem dX10_part_27 : decode cX10_part 27 = .ok (.if_icmp .ne 12, 3) := by decide +kernel
theorem dX10_part_30 : decode cX10_part 30 = .ok (.aload_n 0, 1) := by decide +kernel
theorem dX10_part_31 : decode cX10_part 31 = .ok (.getfield 27, 3) := by decide +kernel
theorem dX10_part_34 : decode cX10_part 34 = .ok (.iconst 1, 1) := by decide +kernel
theorem dX10_part_35 : decode cX10_part 35 = .ok (.iaload, 1) := by decide +kernel
theorem dX10_part_36 : decode cX10_part 36 = .ok (.goto 9, 3) := by decide +kernel
theorem dX10_part_39 : decode cX10_part 39 = .ok (.aload_n 0, 1) := by decide +kernel
theorem dX10_part_40 : decode cX10_part 40 = .ok (.bipush (-2), 2) := by decide +kernel
theorem dX10_part_42 : decode cX10_part 42 = .ok (.invokevirtual 118, 3) := by decide +kernel
theorem dX10_part_45 : decode cX10_part 45 = .ok (.ireturn, 1) := by decide +kernel
theorem dX10_limb_0 : decode cX10_limb 0 = .ok (.iload_n 1, 1) := by decide +kernel
theorem dX10_limb_1 : decode cX10_limb 1 = .ok (.i2l, 1) := by decide +kernel
theorem dX10_limb_2 : decode cX10_limb 2 = .ok (.lconst 0, 1) := by decide +kernel
theorem dX10_limb_3 : decode cX10_limb 3 = .ok (.lconst 1, 1) := by decide +kernel
theorem dX10_limb_4 : decode cX10_limb 4 = .ok (.invokestatic 105, 3) := by decide +kernel
theorem dX10_limb_7 : decode cX10_limb 7 = .ok (.ifCond .eq 7, 3) := by decide +kernel
theorem dX10_limb_10 : decode cX10_limb 10 = .ok (.iload_n 2, 1) := by decide +kernel
theorem dX10_limb_11 : decode cX10_limb 11 = .ok (.ifCond .ge 10, 3) := by decide +kernel
theorem dX10_limb_14 : decode cX10_limb 14 = .ok (.aload_n 0, 1) := by decide +kernel
theorem dX10_limb_15 : decode cX10_limb 15 = .ok (.bipush (-2), 2) := by decide +kernel
theorem dX10_limb_17 : decode cX10_limb 17 = .ok (.invokevirtual 118, 3) := by decide +kernel
theorem dX10_limb_20 : decode cX10_limb 20 = .ok (.ireturn, 1) := by decide +kernel
theorem dX10_limb_21 : decode cX10_limb 21 = .ok (.iload_n 2, 1) := by decide +kernel
theorem dX10_limb_22 : decode cX10_limb 22 = .ok (.aload_n 0, 1) := by decide +kernel
theorem dX10_limb_23 : decode cX10_limb 23 = .ok (.getfield 27, 3) := by decide +kernel
theorem dX10_limb_26 : decode cX10_limb 26 = .ok (.iload_n 1, 1) := by decide +kernel
theorem dX10_limb_27 : decode cX10_limb 27 = .ok (.iaload, 1) := by decide +kernel
theorem dX10_limb_28 : decode cX10_limb 28 = .ok (.if_icmp .ge 18, 3) := by decide +kernel
theorem dX10_limb_31 : decode cX10_limb 31 = .ok (.aload_n 0, 1) := by decide +kernel
theorem dX10_limb_32 : decode cX10_limb 32 = .ok (.getfield 23, 3) := by decide +kernel
theorem dX10_limb_35 : decode cX10_limb 35 = .ok (.bipush 64, 2) := by decide +kernel
theorem dX10_limb_37 : decode cX10_limb 37 = .ok (.iload_n 1, 1) := by decide +kernel
theorem dX10_limb_38 : decode cX10_limb 38 = .ok (.imul, 1) := by decide +kernel
theorem dX10_limb_39 : decode cX10_limb 39 = .ok (.iload_n 2, 1) := by decide +kernel
theorem dX10_limb_40 : decode cX10_limb 40 = .ok (.iadd, 1) := by decide +kernel
theorem dX10_limb_41 : decode cX10_limb 41 = .ok (.laload, 1) := by decide +kernel
theorem dX10_limb_42 : decode cX10_limb 42 = .ok (.l2i, 1) := by decide +kernel
theorem dX10_limb_43 : decode cX10_limb 43 = .ok (.goto 4, 3) := by decide +kernel
theorem dX10_limb_46 : decode cX10_limb 46 = .ok (.iconst (-1), 1) := by decide +kernel
theorem dX10_limb_47 : decode cX10_limb 47 = .ok (.ireturn, 1) := by decide +kernel
theorem dX10_image_0 : decode cX10_image 0 = .ok (.iload_n 1, 1) := by decide +kernel
theorem dX10_image_1 : decode cX10_image 1 = .ok (.i2l, 1) := by decide +kernel
theorem dX10_image_2 : decode cX10_image 2 = .ok (.lconst 0, 1) := by decide +kernel
theorem dX10_image_3 : decode cX10_image 3 = .ok (.lconst 1, 1) := by decide +kernel
theorem dX10_image_4 : decode cX10_image 4 = .ok (.invokestatic 105, 3) := by decide +kernel
theorem dX10_image_7 : decode cX10_image 7 = .ok (.ifCond .ne 10, 3) := by decide +kernel
theorem dX10_image_10 : decode cX10_image 10 = .ok (.aload_n 0, 1) := by decide +kernel
theorem dX10_image_11 : decode cX10_image 11 = .ok (.bipush (-2), 2) := by decide +kernel
theorem dX10_image_13 : decode cX10_image 13 = .ok (.invokevirtual 118, 3) := by decide +kernel
theorem dX10_image_16 : decode cX10_image 16 = .ok (.ireturn, 1) := by decide +kernel
theorem dX10_image_17 : decode cX10_image 17 = .ok (.iconst 0, 1) := by decide +kernel
theorem dX10_image_18 : decode cX10_image 18 = .ok (.istore_n 2, 1) := by decide +kernel
theorem dX10_image_19 : decode cX10_image 19 = .ok (.iload_n 2, 1) := by decide +kernel
theorem dX10_image_20 : decode cX10_image 20 = .ok (.sipush 675, 3) := by decide +kernel
theorem dX10_image_23 : decode cX10_image 23 = .ok (.if_icmp .ge 27, 3) := by decide +kernel
theorem dX10_image_26 : decode cX10_image 26 = .ok (.aload_n 0, 1) := by decide +kernel
theorem dX10_image_27 : decode cX10_image 27 = .ok (.getfield 13, 3) := by decide +kernel
theorem dX10_image_30 : decode cX10_image 30 = .ok (.sipush 675, 3) := by decide +kernel
theorem dX10_image_33 : decode cX10_image 33 = .ok (.iload_n 1, 1) := by decide +kernel
theorem dX10_image_34 : decode cX10_image 34 = .ok (.imul, 1) := by decide +kernel
theorem dX10_image_35 : decode cX10_image 35 = .ok (.iload_n 2, 1) := by decide +kernel
theorem dX10_image_36 : decode cX10_image 36 = .ok (.iadd, 1) := by decide +kernel
theorem dX10_image_37 : decode cX10_image 37 = .ok (.aload_n 0, 1) := by decide +kernel
theorem dX10_image_38 : decode cX10_image 38 = .ok (.getfield 7, 3) := by decide +kernel
theorem dX10_image_41 : decode cX10_image 41 = .ok (.iload_n 2, 1) := by decide +kernel
theorem dX10_image_42 : decode cX10_image 42 = .ok (.iaload, 1) := by decide +kernel
theorem dX10_image_43 : decode cX10_image 43 = .ok (.iastore, 1) := by decide +kernel
theorem dX10_image_44 : decode cX10_image 44 = .ok (.iinc 2 1, 3) := by decide +kernel
theorem dX10_image_47 : decode cX10_image 47 = .ok (.goto (-28), 3) := by decide +kernel
theorem dX10_image_50 : decode cX10_image 50 = .ok (.aload_n 0, 1) := by decide +kernel
theorem dX10_image_51 : decode cX10_image 51 = .ok (.getfield 16, 3) := by decide +kernel
theorem dX10_image_54 : decode cX10_image 54 = .ok (.iload_n 1, 1) := by decide +kernel
theorem dX10_image_55 : decode cX10_image 55 = .ok (.iconst 1, 1) := by decide +kernel
theorem dX10_image_56 : decode cX10_image 56 = .ok (.bastore, 1) := by decide +kernel
theorem dX10_image_57 : decode cX10_image 57 = .ok (.iconst 1, 1) := by decide +kernel
theorem dX10_image_58 : decode cX10_image 58 = .ok (.ireturn, 1) := by decide +kernel
theorem dX10_from_0 : decode cX10_from 0 = .ok (.iload_n 1, 1) := by decide +kernel
theorem dX10_from_1 : decode cX10_from 1 = .ok (.i2l, 1) := by decide +kernel
theorem dX10_from_2 : decode cX10_from 2 = .ok (.lconst 0, 1) := by decide +kernel
theorem dX10_from_3 : decode cX10_from 3 = .ok (.lconst 1, 1) := by decide +kernel
theorem dX10_from_4 : decode cX10_from 4 = .ok (.invokestatic 105, 3) := by decide +kernel
theorem dX10_from_7 : decode cX10_from 7 = .ok (.ifCond .ne 10, 3) := by decide +kernel
theorem dX10_from_10 : decode cX10_from 10 = .ok (.aload_n 0, 1) := by decide +kernel
theorem dX10_from_11 : decode cX10_from 11 = .ok (.bipush (-2), 2) := by decide +kernel
theorem dX10_from_13 : decode cX10_from 13 = .ok (.invokevirtual 118, 3) := by decide +kernel
theorem dX10_from_16 : decode cX10_from 16 = .ok (.ireturn, 1) := by decide +kernel
theorem dX10_from_17 : decode cX10_from 17 = .ok (.aload_n 0, 1) := by decide +kernel
theorem dX10_from_18 : decode cX10_from 18 = .ok (.getfield 16, 3) := by decide +kernel
theorem dX10_from_21 : decode cX10_from 21 = .ok (.iload_n 1, 1) := by decide +kernel
theorem dX10_from_22 : decode cX10_from 22 = .ok (.baload, 1) := by decide +kernel
theorem dX10_from_23 : decode cX10_from 23 = .ok (.ifCond .ne 8, 3) := by decide +kernel
theorem dX10_from_26 : decode cX10_from 26 = .ok (.aload_n 0, 1) := by decide +kernel
theorem dX10_from_27 : decode cX10_from 27 = .ok (.invokevirtual 286, 3) := by decide +kernel
theorem dX10_from_30 : decode cX10_from 30 = .ok (.ireturn, 1) := by decide +kernel
theorem dX10_from_31 : decode cX10_from 31 = .ok (.iconst 0, 1) := by decide +kernel
theorem dX10_from_32 : decode cX10_from 32 = .ok (.istore_n 2, 1) := by decide +kernel
theorem dX10_from_33 : decode cX10_from 33 = .ok (.iload_n 2, 1) := by decide +kernel
theorem dX10_from_34 : decode cX10_from 34 = .ok (.sipush 675, 3) := by decide +kernel
theorem dX10_from_37 : decode cX10_from 37 = .ok (.if_icmp .ge 27, 3) := by decide +kernel
theorem dX10_from_40 : decode cX10_from 40 = .ok (.aload_n 0, 1) := by decide +kernel
theorem dX10_from_41 : decode cX10_from 41 = .ok (.getfield 7, 3) := by decide +kernel
theorem dX10_from_44 : decode cX10_from 44 = .ok (.iload_n 2, 1) := by decide +kernel
theorem dX10_from_45 : decode cX10_from 45 = .ok (.aload_n 0, 1) := by decide +kernel
theorem dX10_from_46 : decode cX10_from 46 = .ok (.getfield 13, 3) := by decide +kernel
theorem dX10_from_49 : decode cX10_from 49 = .ok (.sipush 675, 3) := by decide +kernel
theorem dX10_from_52 : decode cX10_from 52 = .ok (.iload_n 1, 1) := by decide +kernel
theorem dX10_from_53 : decode cX10_from 53 = .ok (.imul, 1) := by decide +kernel
theorem dX10_from_54 : decode cX10_from 54 = .ok (.iload_n 2, 1) := by decide +kernel
theorem dX10_from_55 : decode cX10_from 55 = .ok (.iadd, 1) := by decide +kernel
theorem dX10_from_56 : decode cX10_from 56 = .ok (.iaload, 1) := by decide +kernel
theorem dX10_from_57 : decode cX10_from 57 = .ok (.iastore, 1) := by decide +kernel
theorem dX10_from_58 : decode cX10_from 58 = .ok (.iinc 2 1, 3) := by decide +kernel
theorem dX10_from_61 : decode cX10_from 61 = .ok (.goto (-28), 3) := by decide +kernel
theorem dX10_from_64 : decode cX10_from 64 = .ok (.iconst 1, 1) := by decide +kernel
theorem dX10_from_65 : decode cX10_from 65 = .ok (.ireturn, 1) := by decide +kernel
theorem dX10_status_0 : decode cX10_status 0 = .ok (.iload_n 1, 1) := by decide +kernel
theorem dX10_status_1 : decode cX10_status 1 = .ok (.i2l, 1) := by decide +kernel
theorem dX10_status_2 : decode cX10_status 2 = .ok (.lconst 0, 1) := by decide +kernel
theorem dX10_status_3 : decode cX10_status 3 = .ok (.ldc2_w 61, 3) := by decide +kernel
theorem dX10_status_6 : decode cX10_status 6 = .ok (.invokestatic 105, 3) := by decide +kernel
theorem dX10_status_9 : decode cX10_status 9 = .ok (.ifCond .eq 12, 3) := by decide +kernel
theorem dX10_status_12 : decode cX10_status 12 = .ok (.aload_n 0, 1) := by decide +kernel
theorem dX10_status_13 : decode cX10_status 13 = .ok (.getfield 20, 3) := by decide +kernel
theorem dX10_status_16 : decode cX10_status 16 = .ok (.iload_n 1, 1) := by decide +kernel
theorem dX10_status_17 : decode cX10_status 17 = .ok (.iaload, 1) := by decide +kernel
theorem dX10_status_18 : decode cX10_status 18 = .ok (.goto 8, 3) := by decide +kernel
theorem dX10_status_21 : decode cX10_status 21 = .ok (.aload_n 0, 1) := by decide +kernel
theorem dX10_status_22 : decode cX10_status 22 = .ok (.iconst (-1), 1) := by decide +kernel
theorem dX10_status_23 : decode cX10_status 23 = .ok (.invokevirtual 118, 3) := by decide +kernel
theorem dX10_status_26 : decode cX10_status 26 = .ok (.ireturn, 1) := by decide +kernel
theorem dX10_counted_0 : decode cX10_counted 0 = .ok (.iload_n 1, 1) := by decide +kernel
theorem dX10_counted_1 : decode cX10_counted 1 = .ok (.iconst 4, 1) := by decide +kernel
theorem dX10_counted_2 : decode cX10_counted 2 = .ok (.if_icmp .ge 16, 3) := by decide +kernel
theorem dX10_counted_5 : decode cX10_counted 5 = .ok (.aload_n 0, 1) := by decide +kernel
theorem dX10_counted_6 : decode cX10_counted 6 = .ok (.getfield 7, 3) := by decide +kernel
theorem dX10_counted_9 : decode cX10_counted 9 = .ok (.sipush 671, 3) := by decide +kernel
theorem dX10_counted_12 : decode cX10_counted 12 = .ok (.iload_n 1, 1) := by decide +kernel
theorem dX10_counted_13 : decode cX10_counted 13 = .ok (.iadd, 1) := by decide +kernel
theorem dX10_counted_14 : decode cX10_counted 14 = .ok (.iaload, 1) := by decide +kernel
theorem dX10_counted_15 : decode cX10_counted 15 = .ok (.goto 10, 3) := by decide +kernel
theorem dX10_counted_18 : decode cX10_counted 18 = .ok (.aload_n 0, 1) := by decide +kernel
theorem dX10_counted_19 : decode cX10_counted 19 = .ok (.iload_n 1, 1) := by decide +kernel
theorem dX10_counted_20 : decode cX10_counted 20 = .ok (.iconst 4, 1) := by decide +kernel
theorem dX10_counted_21 : decode cX10_counted 21 = .ok (.isub, 1) := by decide +kernel
theorem dX10_counted_22 : decode cX10_counted 22 = .ok (.invokevirtual 136, 3) := by decide +kernel
theorem dX10_counted_25 : decode cX10_counted 25 = .ok (.ireturn, 1) := by decide +kernel
theorem dX10_count_0 : decode cX10_count 0 = .ok (.iload_n 1, 1) := by decide +kernel
theorem dX10_count_1 : decode cX10_count 1 = .ok (.i2l, 1) := by decide +kernel
theorem dX10_count_2 : decode cX10_count 2 = .ok (.lconst 0, 1) := by decide +kernel
theorem dX10_count_3 : decode cX10_count 3 = .ok (.ldc2_w 328, 3) := by decide +kernel
theorem dX10_count_6 : decode cX10_count 6 = .ok (.invokestatic 105, 3) := by decide +kernel
theorem dX10_count_9 : decode cX10_count 9 = .ok (.ifCond .eq 11, 3) := by decide +kernel
theorem dX10_count_12 : decode cX10_count 12 = .ok (.aload_n 0, 1) := by decide +kernel
theorem dX10_count_13 : decode cX10_count 13 = .ok (.iload_n 1, 1) := by decide +kernel
theorem dX10_count_14 : decode cX10_count 14 = .ok (.invokevirtual 330, 3) := by decide +kernel
theorem dX10_count_17 : decode cX10_count 17 = .ok (.goto 9, 3) := by decide +kernel
theorem dX10_count_20 : decode cX10_count 20 = .ok (.aload_n 0, 1) := by decide +kernel
theorem dX10_count_21 : decode cX10_count 21 = .ok (.bipush (-2), 2) := by decide +kernel
theorem dX10_count_23 : decode cX10_count 23 = .ok (.invokevirtual 118, 3) := by decide +kernel
theorem dX10_count_26 : decode cX10_count 26 = .ok (.ireturn, 1) := by decide +kernel
theorem dX10_sums_0 : decode cX10_sums 0 = .ok (.lload_n 1, 1) := by decide +kernel
theorem dX10_sums_1 : decode cX10_sums 1 = .ok (.lstore 5, 2) := by decide +kernel
theorem dX10_sums_3 : decode cX10_sums 3 = .ok (.iconst 0, 1) := by decide +kernel
theorem dX10_sums_4 : decode cX10_sums 4 = .ok (.istore 7, 2) := by decide +kernel
theorem dX10_sums_6 : decode cX10_sums 6 = .ok (.iload 7, 2) := by decide +kernel
theorem dX10_sums_8 : decode cX10_sums 8 = .ok (.iload 4, 2) := by decide +kernel
theorem dX10_sums_10 : decode cX10_sums 10 = .ok (.if_icmp .ge 28, 3) := by decide +kernel
theorem dX10_sums_13 : decode cX10_sums 13 = .ok (.ldc2_w 333, 3) := by decide +kernel
theorem dX10_sums_16 : decode cX10_sums 16 = .ok (.lload 5, 2) := by decide +kernel
theorem dX10_sums_18 : decode cX10_sums 18 = .ok (.lmul, 1) := by decide +kernel
theorem dX10_sums_19 : decode cX10_sums 19 = .ok (.aload_n 0, 1) := by decide +kernel
theorem dX10_sums_20 : decode cX10_sums 20 = .ok (.getfield 7, 3) := by decide +kernel
theorem dX10_sums_23 : decode cX10_sums 23 = .ok (.iload_n 3, 1) := by decide +kernel
theorem dX10_sums_24 : decode cX10_sums 24 = .ok (.iload 7, 2) := by decide +kernel
theorem dX10_sums_26 : decode cX10_sums 26 = .ok (.iadd, 1) := by decide +kernel
theorem dX10_sums_27 : decode cX10_sums 27 = .ok (.iaload, 1) := by decide +kernel
theorem dX10_sums_28 : decode cX10_sums 28 = .ok (.i2l, 1) := by decide +kernel
theorem dX10_sums_29 : decode cX10_sums 29 = .ok (.ladd, 1) := by decide +kernel
theorem dX10_sums_30 : decode cX10_sums 30 = .ok (.lstore 5, 2) := by decide +kernel
theorem dX10_sums_32 : decode cX10_sums 32 = .ok (.iinc 7 1, 3) := by decide +kernel
theorem dX10_sums_35 : decode cX10_sums 35 = .ok (.goto (-29), 3) := by decide +kernel
theorem dX10_sums_38 : decode cX10_sums 38 = .ok (.lload 5, 2) := by decide +kernel
theorem dX10_sums_40 : decode cX10_sums 40 = .ok (.lreturn, 1) := by decide +kernel
theorem dX10_digest_0 : decode cX10_digest 0 = .ok (.ldc2_w 335, 3) := by decide +kernel
theorem dX10_digest_3 : decode cX10_digest 3 = .ok (.lstore_n 1, 1) := by decide +kernel
theorem dX10_digest_4 : decode cX10_digest 4 = .ok (.iconst 0, 1) := by decide +kernel
theorem dX10_digest_5 : decode cX10_digest 5 = .ok (.istore_n 3, 1) := by decide +kernel
theorem dX10_digest_6 : decode cX10_digest 6 = .ok (.iload_n 3, 1) := by decide +kernel
theorem dX10_digest_7 : decode cX10_digest 7 = .ok (.bipush 8, 2) := by decide +kernel
theorem dX10_digest_9 : decode cX10_digest 9 = .ok (.if_icmp .ge 22, 3) := by decide +kernel
theorem dX10_digest_12 : decode cX10_digest 12 = .ok (.ldc2_w 333, 3) := by decide +kernel
theorem dX10_digest_15 : decode cX10_digest 15 = .ok (.lload_n 1, 1) := by decide +kernel
theorem dX10_digest_16 : decode cX10_digest 16 = .ok (.lmul, 1) := by decide +kernel
theorem dX10_digest_17 : decode cX10_digest 17 = .ok (.aload_n 0, 1) := by decide +kernel
theorem dX10_digest_18 : decode cX10_digest 18 = .ok (.iload_n 3, 1) := by decide +kernel
theorem dX10_digest_19 : decode cX10_digest 19 = .ok (.invokevirtual 330, 3) := by decide +kernel
theorem dX10_digest_22 : decode cX10_digest 22 = .ok (.i2l, 1) := by decide +kernel
theorem dX10_digest_23 : decode cX10_digest 23 = .ok (.ladd, 1) := by decide +kernel
theorem dX10_digest_24 : decode cX10_digest 24 = .ok (.lstore_n 1, 1) := by decide +kernel
theorem dX10_digest_25 : decode cX10_digest 25 = .ok (.iinc 3 1, 3) := by decide +kernel
theorem dX10_digest_28 : decode cX10_digest 28 = .ok (.goto (-22), 3) := by decide +kernel
theorem dX10_digest_31 : decode cX10_digest 31 = .ok (.aload_n 0, 1) := by decide +kernel
theorem dX10_digest_32 : decode cX10_digest 32 = .ok (.lload_n 1, 1) := by decide +kernel
theorem dX10_digest_33 : decode cX10_digest 33 = .ok (.iconst 0, 1) := by decide +kernel
theorem dX10_digest_34 : decode cX10_digest 34 = .ok (.aload_n 0, 1) := by decide +kernel
theorem dX10_digest_35 : decode cX10_digest 35 = .ok (.invokevirtual 101, 3) := by decide +kernel
theorem dX10_digest_38 : decode cX10_digest 38 = .ok (.invokevirtual 337, 3) := by decide +kernel
theorem dX10_digest_41 : decode cX10_digest 41 = .ok (.lstore_n 1, 1) := by decide +kernel
theorem dX10_digest_42 : decode cX10_digest 42 = .ok (.aload_n 0, 1) := by decide +kernel
theorem dX10_digest_43 : decode cX10_digest 43 = .ok (.lload_n 1, 1) := by decide +kernel
theorem dX10_digest_44 : decode cX10_digest 44 = .ok (.bipush 6, 2) := by decide +kernel
theorem dX10_digest_46 : decode cX10_digest 46 = .ok (.bipush 10, 2) := by decide +kernel
theorem dX10_digest_48 : decode cX10_digest 48 = .ok (.invokevirtual 337, 3) := by decide +kernel
theorem dX10_digest_51 : decode cX10_digest 51 = .ok (.lstore_n 1, 1) := by decide +kernel
theorem dX10_digest_52 : decode cX10_digest 52 = .ok (.aload_n 0, 1) := by decide +kernel
theorem dX10_digest_53 : decode cX10_digest 53 = .ok (.lload_n 1, 1) := by decide +kernel
theorem dX10_digest_54 : decode cX10_digest 54 = .ok (.bipush 16, 2) := by decide +kernel
theorem dX10_digest_56 : decode cX10_digest 56 = .ok (.aload_n 0, 1) := by decide +kernel
theorem dX10_digest_57 : decode cX10_digest 57 = .ok (.invokevirtual 109, 3) := by decide +kernel
theorem dX10_digest_60 : decode cX10_digest 60 = .ok (.invokevirtual 337, 3) := by decide +kernel
theorem dX10_digest_63 : decode cX10_digest 63 = .ok (.lstore_n 1, 1) := by decide +kernel
theorem dX10_digest_64 : decode cX10_digest 64 = .ok (.aload_n 0, 1) := by decide +kernel
theorem dX10_digest_65 : decode cX10_digest 65 = .ok (.lload_n 1, 1) := by decide +kernel
theorem dX10_digest_66 : decode cX10_digest 66 = .ok (.bipush 20, 2) := by decide +kernel
theorem dX10_digest_68 : decode cX10_digest 68 = .ok (.iconst 2, 1) := by decide +kernel
theorem dX10_digest_69 : decode cX10_digest 69 = .ok (.invokevirtual 337, 3) := by decide +kernel
theorem dX10_digest_72 : decode cX10_digest 72 = .ok (.lstore_n 1, 1) := by decide +kernel
theorem dX10_digest_73 : decode cX10_digest 73 = .ok (.iconst 0, 1) := by decide +kernel
theorem dX10_digest_74 : decode cX10_digest 74 = .ok (.istore_n 3, 1) := by decide +kernel
theorem dX10_digest_75 : decode cX10_digest 75 = .ok (.iload_n 3, 1) := by decide +kernel
theorem dX10_digest_76 : decode cX10_digest 76 = .ok (.iconst 4, 1) := by decide +kernel
theorem dX10_digest_77 : decode cX10_digest 77 = .ok (.if_icmp .ge 41, 3) := by decide +kernel
theorem dX10_digest_80 : decode cX10_digest 80 = .ok (.ldc2_w 333, 3) := by decide +kernel
theorem dX10_digest_83 : decode cX10_digest 83 = .ok (.ldc2_w 333, 3) := by decide +kernel
theorem dX10_digest_86 : decode cX10_digest 86 = .ok (.lload_n 1, 1) := by decide +kernel
theorem dX10_digest_87 : decode cX10_digest 87 = .ok (.lmul, 1) := by decide +kernel
theorem dX10_digest_88 : decode cX10_digest 88 = .ok (.aload_n 0, 1) := by decide +kernel
theorem dX10_digest_89 : decode cX10_digest 89 = .ok (.getfield 7, 3) := by decide +kernel
theorem dX10_digest_92 : decode cX10_digest 92 = .ok (.bipush 22, 2) := by decide +kernel
theorem dX10_digest_94 : decode cX10_digest 94 = .ok (.iload_n 3, 1) := by decide +kernel
theorem dX10_digest_95 : decode cX10_digest 95 = .ok (.iadd, 1) := by decide +kernel
theorem dX10_digest_96 : decode cX10_digest 96 = .ok (.iaload, 1) := by decide +kernel
theorem dX10_digest_97 : decode cX10_digest 97 = .ok (.i2l, 1) := by decide +kernel
theorem dX10_digest_98 : decode cX10_digest 98 = .ok (.ladd, 1) := by decide +kernel
theorem dX10_digest_99 : decode cX10_digest 99 = .ok (.lmul, 1) := by decide +kernel
theorem dX10_digest_100 : decode cX10_digest 100 = .ok (.aload_n 0, 1) := by decide +kernel
theorem dX10_digest_101 : decode cX10_digest 101 = .ok (.getfield 7, 3) := by decide +kernel
theorem dX10_digest_104 : decode cX10_digest 104 = .ok (.bipush 26, 2) := by decide +kernel
theorem dX10_digest_106 : decode cX10_digest 106 = .ok (.iload_n 3, 1) := by decide +kernel
theorem dX10_digest_107 : decode cX10_digest 107 = .ok (.iadd, 1) := by decide +kernel
theorem dX10_digest_108 : decode cX10_digest 108 = .ok (.iaload, 1) := by decide +kernel
theorem dX10_digest_109 : decode cX10_digest 109 = .ok (.i2l, 1) := by decide +kernel
theorem dX10_digest_110 : decode cX10_digest 110 = .ok (.ladd, 1) := by decide +kernel
theorem dX10_digest_111 : decode cX10_digest 111 = .ok (.lstore_n 1, 1) := by decide +kernel
theorem dX10_digest_112 : decode cX10_digest 112 = .ok (.iinc 3 1, 3) := by decide +kernel
theorem dX10_digest_115 : decode cX10_digest 115 = .ok (.goto (-40), 3) := by decide +kernel
theorem dX10_digest_118 : decode cX10_digest 118 = .ok (.iconst 0, 1) := by decide +kernel
theorem dX10_digest_119 : decode cX10_digest 119 = .ok (.istore_n 3, 1) := by decide +kernel
theorem dX10_digest_120 : decode cX10_digest 120 = .ok (.iload_n 3, 1) := by decide +kernel
theorem dX10_digest_121 : decode cX10_digest 121 = .ok (.iconst 4, 1) := by decide +kernel
theorem dX10_digest_122 : decode cX10_digest 122 = .ok (.if_icmp .ge 44, 3) := by decide +kernel
theorem dX10_digest_125 : decode cX10_digest 125 = .ok (.aload_n 0, 1) := by decide +kernel
theorem dX10_digest_126 : decode cX10_digest 126 = .ok (.ldc2_w 333, 3) := by decide +kernel
theorem dX10_digest_129 : decode cX10_digest 129 = .ok (.lload_n 1, 1) := by decide +kernel
theorem dX10_digest_130 : decode cX10_digest 130 = .ok (.lmul, 1) := by decide +kernel
theorem dX10_digest_131 : decode cX10_digest 131 = .ok (.aload_n 0, 1) := by decide +kernel
theorem dX10_digest_132 : decode cX10_digest 132 = .ok (.getfield 7, 3) := by decide +kernel
theorem dX10_digest_135 : decode cX10_digest 135 = .ok (.bipush 30, 2) := by decide +kernel
theorem dX10_digest_137 : decode cX10_digest 137 = .ok (.iload_n 3, 1) := by decide +kernel
theorem dX10_digest_138 : decode cX10_digest 138 = .ok (.iadd, 1) := by decide +kernel
theorem dX10_digest_139 : decode cX10_digest 139 = .ok (.iaload, 1) := by decide +kernel
theorem dX10_digest_140 : decode cX10_digest 140 = .ok (.i2l, 1) := by decide +kernel
theorem dX10_digest_141 : decode cX10_digest 141 = .ok (.ladd, 1) := by decide +kernel
theorem dX10_digest_142 : decode cX10_digest 142 = .ok (.bipush 34, 2) := by decide +kernel
theorem dX10_digest_144 : decode cX10_digest 144 = .ok (.bipush 121, 2) := by decide +kernel
theorem dX10_digest_146 : decode cX10_digest 146 = .ok (.iload_n 3, 1) := by decide +kernel
theorem dX10_digest_147 : decode cX10_digest 147 = .ok (.imul, 1) := by decide +kernel
theorem dX10_digest_148 : decode cX10_digest 148 = .ok (.iadd, 1) := by decide +kernel
theorem dX10_digest_149 : decode cX10_digest 149 = .ok (.iconst 1, 1) := by decide +kernel
theorem dX10_digest_150 : decode cX10_digest 150 = .ok (.iadd, 1) := by decide +kernel
theorem dX10_digest_151 : decode cX10_digest 151 = .ok (.aload_n 0, 1) := by decide +kernel
theorem dX10_digest_152 : decode cX10_digest 152 = .ok (.iload_n 3, 1) := by decide +kernel
theorem dX10_digest_153 : decode cX10_digest 153 = .ok (.invokevirtual 136, 3) := by decide +kernel
theorem dX10_digest_156 : decode cX10_digest 156 = .ok (.invokevirtual 337, 3) := by decide +kernel
theorem dX10_digest_159 : decode cX10_digest 159 = .ok (.lstore_n 1, 1) := by decide +kernel
theorem dX10_digest_160 : decode cX10_digest 160 = .ok (.iinc 3 1, 3) := by decide +kernel
theorem dX10_digest_163 : decode cX10_digest 163 = .ok (.goto (-43), 3) := by decide +kernel
theorem dX10_digest_166 : decode cX10_digest 166 = .ok (.aload_n 0, 1) := by decide +kernel
theorem dX10_digest_167 : decode cX10_digest 167 = .ok (.lload_n 1, 1) := by decide +kernel
theorem dX10_digest_168 : decode cX10_digest 168 = .ok (.sipush 518, 3) := by decide +kernel
theorem dX10_digest_171 : decode cX10_digest 171 = .ok (.iconst 4, 1) := by decide +kernel
theorem dX10_digest_172 : decode cX10_digest 172 = .ok (.aload_n 0, 1) := by decide +kernel
theorem dX10_digest_173 : decode cX10_digest 173 = .ok (.invokevirtual 215, 3) := by decide +kernel
theorem dX10_digest_176 : decode cX10_digest 176 = .ok (.imul, 1) := by decide +kernel
theorem dX10_digest_177 : decode cX10_digest 177 = .ok (.invokevirtual 337, 3) := by decide +kernel
theorem dX10_digest_180 : decode cX10_digest 180 = .ok (.lstore_n 1, 1) := by decide +kernel
theorem dX10_digest_181 : decode cX10_digest 181 = .ok (.aload_n 0, 1) := by decide +kernel
theorem dX10_digest_182 : decode cX10_digest 182 = .ok (.lload_n 1, 1) := by decide +kernel
theorem dX10_digest_183 : decode cX10_digest 183 = .ok (.sipush 542, 3) := by decide +kernel
theorem dX10_digest_186 : decode cX10_digest 186 = .ok (.iconst 3, 1) := by decide +kernel
theorem dX10_digest_187 : decode cX10_digest 187 = .ok (.invokevirtual 337, 3) := by decide +kernel
theorem dX10_digest_190 : decode cX10_digest 190 = .ok (.lstore_n 1, 1) := by decide +kernel
theorem dX10_digest_191 : decode cX10_digest 191 = .ok (.aload_n 0, 1) := by decide +kernel
theorem dX10_digest_192 : decode cX10_digest 192 = .ok (.lload_n 1, 1) := by decide +kernel
theorem dX10_digest_193 : decode cX10_digest 193 = .ok (.sipush 545, 3) := by decide +kernel
theorem dX10_digest_196 : decode cX10_digest 196 = .ok (.iconst 5, 1) := by decide +kernel
theorem dX10_digest_197 : decode cX10_digest 197 = .ok (.aload_n 0, 1) := by decide +kernel
theorem dX10_digest_198 : decode cX10_digest 198 = .ok (.invokevirtual 229, 3) := by decide +kernel
theorem dX10_digest_201 : decode cX10_digest 201 = .ok (.imul, 1) := by decide +kernel
theorem dX10_digest_202 : decode cX10_digest 202 = .ok (.invokevirtual 337, 3) := by decide +kernel
theorem dX10_digest_205 : decode cX10_digest 205 = .ok (.lstore_n 1, 1) := by decide +kernel
theorem dX10_digest_206 : decode cX10_digest 206 = .ok (.iconst 0, 1) := by decide +kernel
theorem dX10_digest_207 : decode cX10_digest 207 = .ok (.istore_n 3, 1) := by decide +kernel
theorem dX10_digest_208 : decode cX10_digest 208 = .ok (.iload_n 3, 1) := by decide +kernel
theorem dX10_digest_209 : decode cX10_digest 209 = .ok (.aload_n 0, 1) := by decide +kernel
theorem dX10_digest_210 : decode cX10_digest 210 = .ok (.invokevirtual 101, 3) := by decide +kernel
theorem dX10_digest_213 : decode cX10_digest 213 = .ok (.if_icmp .ge 24, 3) := by decide +kernel
theorem dX10_digest_216 : decode cX10_digest 216 = .ok (.aload_n 0, 1) := by decide +kernel
theorem dX10_digest_217 : decode cX10_digest 217 = .ok (.lload_n 1, 1) := by decide +kernel
theorem dX10_digest_218 : decode cX10_digest 218 = .ok (.sipush 575, 3) := by decide +kernel
theorem dX10_digest_221 : decode cX10_digest 221 = .ok (.bipush 6, 2) := by decide +kernel
theorem dX10_digest_223 : decode cX10_digest 223 = .ok (.iload_n 3, 1) := by decide +kernel
theorem dX10_digest_224 : decode cX10_digest 224 = .ok (.imul, 1) := by decide +kernel
theorem dX10_digest_225 : decode cX10_digest 225 = .ok (.iadd, 1) := by decide +kernel
theorem dX10_digest_226 : decode cX10_digest 226 = .ok (.iload_n 3, 1) := by decide +kernel
theorem dX10_digest_227 : decode cX10_digest 227 = .ok (.invokevirtual 337, 3) := by decide +kernel
theorem dX10_digest_230 : decode cX10_digest 230 = .ok (.lstore_n 1, 1) := by decide +kernel
theorem dX10_digest_231 : decode cX10_digest 231 = .ok (.iinc 3 1, 3) := by decide +kernel
theorem dX10_digest_234 : decode cX10_digest 234 = .ok (.goto (-26), 3) := by decide +kernel
theorem dX10_digest_237 : decode cX10_digest 237 = .ok (.aload_n 0, 1) := by decide +kernel
theorem dX10_digest_238 : decode cX10_digest 238 = .ok (.lload_n 1, 1) := by decide +kernel
theorem dX10_digest_239 : decode cX10_digest 239 = .ok (.sipush 611, 3) := by decide +kernel
theorem dX10_digest_242 : decode cX10_digest 242 = .ok (.bipush 60, 2) := by decide +kernel
theorem dX10_digest_244 : decode cX10_digest 244 = .ok (.invokevirtual 337, 3) := by decide +kernel
theorem dX10_digest_247 : decode cX10_digest 247 = .ok (.lstore_n 1, 1) := by decide +kernel
theorem dX10_digest_248 : decode cX10_digest 248 = .ok (.ldc2_w 333, 3) := by decide +kernel
theorem dX10_digest_251 : decode cX10_digest 251 = .ok (.ldc2_w 333, 3) := by decide +kernel
theorem dX10_digest_254 : decode cX10_digest 254 = .ok (.ldc2_w 333, 3) := by decide +kernel
theorem dX10_digest_257 : decode cX10_digest 257 = .ok (.lload_n 1, 1) := by decide +kernel
theorem dX10_digest_258 : decode cX10_digest 258 = .ok (.lmul, 1) := by decide +kernel
theorem dX10_digest_259 : decode cX10_digest 259 = .ok (.aload_n 0, 1) := by decide +kernel
theorem dX10_digest_260 : decode cX10_digest 260 = .ok (.getfield 87, 3) := by decide +kernel
theorem dX10_digest_263 : decode cX10_digest 263 = .ok (.i2l, 1) := by decide +kernel
theorem dX10_digest_264 : decode cX10_digest 264 = .ok (.ladd, 1) := by decide +kernel
theorem dX10_digest_265 : decode cX10_digest 265 = .ok (.lmul, 1) := by decide +kernel
theorem dX10_digest_266 : decode cX10_digest 266 = .ok (.aload_n 0, 1) := by decide +kernel
theorem dX10_digest_267 : decode cX10_digest 267 = .ok (.getfield 27, 3) := by decide +kernel
theorem dX10_digest_270 : decode cX10_digest 270 = .ok (.iconst 0, 1) := by decide +kernel
theorem dX10_digest_271 : decode cX10_digest 271 = .ok (.iaload, 1) := by decide +kernel
theorem dX10_digest_272 : decode cX10_digest 272 = .ok (.i2l, 1) := by decide +kernel
theorem dX10_digest_273 : decode cX10_digest 273 = .ok (.ladd, 1) := by decide +kernel
theorem dX10_digest_274 : decode cX10_digest 274 = .ok (.lmul, 1) := by decide +kernel
theorem dX10_digest_275 : decode cX10_digest 275 = .ok (.aload_n 0, 1) := by decide +kernel
theorem dX10_digest_276 : decode cX10_digest 276 = .ok (.getfield 27, 3) := by decide +kernel
theorem dX10_digest_279 : decode cX10_digest 279 = .ok (.iconst 1, 1) := by decide +kernel
theorem dX10_digest_280 : decode cX10_digest 280 = .ok (.iaload, 1) := by decide +kernel
theorem dX10_digest_281 : decode cX10_digest 281 = .ok (.i2l, 1) := by decide +kernel
theorem dX10_digest_282 : decode cX10_digest 282 = .ok (.ladd, 1) := by decide +kernel
theorem dX10_digest_283 : decode cX10_digest 283 = .ok (.lstore_n 1, 1) := by decide +kernel
theorem dX10_digest_284 : decode cX10_digest 284 = .ok (.iconst 0, 1) := by decide +kernel
theorem dX10_digest_285 : decode cX10_digest 285 = .ok (.istore_n 3, 1) := by decide +kernel
theorem dX10_digest_286 : decode cX10_digest 286 = .ok (.iload_n 3, 1) := by decide +kernel
theorem dX10_digest_287 : decode cX10_digest 287 = .ok (.iconst 1, 1) := by decide +kernel
theorem dX10_digest_288 : decode cX10_digest 288 = .ok (.if_icmp .gt 48, 3) := by decide +kernel
theorem dX10_digest_291 : decode cX10_digest 291 = .ok (.iconst 0, 1) := by decide +kernel
theorem dX10_digest_292 : decode cX10_digest 292 = .ok (.istore 4, 2) := by decide +kernel
theorem dX10_digest_294 : decode cX10_digest 294 = .ok (.iload 4, 2) := by decide +kernel
theorem dX10_digest_296 : decode cX10_digest 296 = .ok (.aload_n 0, 1) := by decide +kernel
theorem dX10_digest_297 : decode cX10_digest 297 = .ok (.getfield 27, 3) := by decide +kernel
theorem dX10_digest_300 : decode cX10_digest 300 = .ok (.iload_n 3, 1) := by decide +kernel
theorem dX10_digest_301 : decode cX10_digest 301 = .ok (.iaload, 1) := by decide +kernel
theorem dX10_digest_302 : decode cX10_digest 302 = .ok (.if_icmp .ge 28, 3) := by decide +kernel
theorem dX10_digest_305 : decode cX10_digest 305 = .ok (.ldc2_w 333, 3) := by decide +kernel
theorem dX10_digest_308 : decode cX10_digest 308 = .ok (.lload_n 1, 1) := by decide +kernel
theorem dX10_digest_309 : decode cX10_digest 309 = .ok (.lmul, 1) := by decide +kernel
theorem dX10_digest_310 : decode cX10_digest 310 = .ok (.aload_n 0, 1) := by decide +kernel
theorem dX10_digest_311 : decode cX10_digest 311 = .ok (.getfield 23, 3) := by decide +kernel
theorem dX10_digest_314 : decode cX10_digest 314 = .ok (.bipush 64, 2) := by decide +kernel
theorem dX10_digest_316 : decode cX10_digest 316 = .ok (.iload_n 3, 1) := by decide +kernel
theorem dX10_digest_317 : decode cX10_digest 317 = .ok (.imul, 1) := by decide +kernel
theorem dX10_digest_318 : decode cX10_digest 318 = .ok (.iload 4, 2) := by decide +kernel
theorem dX10_digest_320 : decode cX10_digest 320 = .ok (.iadd, 1) := by decide +kernel
theorem dX10_digest_321 : decode cX10_digest 321 = .ok (.laload, 1) := by decide +kernel
theorem dX10_digest_322 : decode cX10_digest 322 = .ok (.ladd, 1) := by decide +kernel
theorem dX10_digest_323 : decode cX10_digest 323 = .ok (.lstore_n 1, 1) := by decide +kernel
theorem dX10_digest_324 : decode cX10_digest 324 = .ok (.iinc 4 1, 3) := by decide +kernel
theorem dX10_digest_327 : decode cX10_digest 327 = .ok (.goto (-33), 3) := by decide +kernel
theorem dX10_digest_330 : decode cX10_digest 330 = .ok (.iinc 3 1, 3) := by decide +kernel
theorem dX10_digest_333 : decode cX10_digest 333 = .ok (.goto (-47), 3) := by decide +kernel
theorem dX10_digest_336 : decode cX10_digest 336 = .ok (.lload_n 1, 1) := by decide +kernel
theorem dX10_digest_337 : decode cX10_digest 337 = .ok (.lreturn, 1) := by decide +kernel
