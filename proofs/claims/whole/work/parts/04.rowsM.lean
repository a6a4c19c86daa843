theorem dX6_init_0 : decode cX6_init 0 = .ok (.aload_n 0, 1) := by decide +kernel
theorem dX6_init_1 : decode cX6_init 1 = .ok (.invokespecial 1, 3) := by decide +kernel
theorem dX6_init_4 : decode cX6_init 4 = .ok (.aload_n 0, 1) := by decide +kernel
theorem dX6_init_5 : decode cX6_init 5 = .ok (.bipush 6, 2) := by decide +kernel
theorem dX6_init_7 : decode cX6_init 7 = .ok (.newarray .int, 2) := by decide +kernel
theorem dX6_init_9 : decode cX6_init 9 = .ok (.putfield 7, 3) := by decide +kernel
theorem dX6_init_12 : decode cX6_init 12 = .ok (.aload_n 0, 1) := by decide +kernel
theorem dX6_init_13 : decode cX6_init 13 = .ok (.bipush 6, 2) := by decide +kernel
theorem dX6_init_15 : decode cX6_init 15 = .ok (.newarray .int, 2) := by decide +kernel
theorem dX6_init_17 : decode cX6_init 17 = .ok (.putfield 13, 3) := by decide +kernel
theorem dX6_init_20 : decode cX6_init 20 = .ok (.aload_n 0, 1) := by decide +kernel
theorem dX6_init_21 : decode cX6_init 21 = .ok (.bipush 6, 2) := by decide +kernel
theorem dX6_init_23 : decode cX6_init 23 = .ok (.newarray .int, 2) := by decide +kernel
theorem dX6_init_25 : decode cX6_init 25 = .ok (.putfield 16, 3) := by decide +kernel
theorem dX6_init_28 : decode cX6_init 28 = .ok (.aload_n 0, 1) := by decide +kernel
theorem dX6_init_29 : decode cX6_init 29 = .ok (.bipush 6, 2) := by decide +kernel
theorem dX6_init_31 : decode cX6_init 31 = .ok (.newarray .int, 2) := by decide +kernel
theorem dX6_init_33 : decode cX6_init 33 = .ok (.putfield 19, 3) := by decide +kernel
theorem dX6_init_36 : decode cX6_init 36 = .ok (.aload_n 0, 1) := by decide +kernel
theorem dX6_init_37 : decode cX6_init 37 = .ok (.bipush 6, 2) := by decide +kernel
theorem dX6_init_39 : decode cX6_init 39 = .ok (.newarray .int, 2) := by decide +kernel
theorem dX6_init_41 : decode cX6_init 41 = .ok (.putfield 22, 3) := by decide +kernel
theorem dX6_init_44 : decode cX6_init 44 = .ok (.aload_n 0, 1) := by decide +kernel
theorem dX6_init_45 : decode cX6_init 45 = .ok (.sipush 200, 3) := by decide +kernel
theorem dX6_init_48 : decode cX6_init 48 = .ok (.putfield 25, 3) := by decide +kernel
theorem dX6_init_51 : decode cX6_init 51 = .ok (.aload_n 0, 1) := by decide +kernel
theorem dX6_init_52 : decode cX6_init 52 = .ok (.iconst 1, 1) := by decide +kernel
theorem dX6_init_53 : decode cX6_init 53 = .ok (.putfield 29, 3) := by decide +kernel
theorem dX6_init_56 : decode cX6_init 56 = .ok (.aload_n 0, 1) := by decide +kernel
theorem dX6_init_57 : decode cX6_init 57 = .ok (.bipush 9, 2) := by decide +kernel
theorem dX6_init_59 : decode cX6_init 59 = .ok (.putfield 32, 3) := by decide +kernel
theorem dX6_init_62 : decode cX6_init 62 = .ok (.aload_n 0, 1) := by decide +kernel
theorem dX6_init_63 : decode cX6_init 63 = .ok (.bipush 24, 2) := by decide +kernel
theorem dX6_init_65 : decode cX6_init 65 = .ok (.newarray .int, 2) := by decide +kernel
theorem dX6_init_67 : decode cX6_init 67 = .ok (.putfield 35, 3) := by decide +kernel
theorem dX6_init_70 : decode cX6_init 70 = .ok (.aload_n 0, 1) := by decide +kernel
theorem dX6_init_71 : decode cX6_init 71 = .ok (.iconst 1, 1) := by decide +kernel
theorem dX6_init_72 : decode cX6_init 72 = .ok (.putfield 38, 3) := by decide +kernel
theorem dX6_init_75 : decode cX6_init 75 = .ok (.aload_n 0, 1) := by decide +kernel
theorem dX6_init_76 : decode cX6_init 76 = .ok (.bipush 60, 2) := by decide +kernel
theorem dX6_init_78 : decode cX6_init 78 = .ok (.newarray .int, 2) := by decide +kernel
theorem dX6_init_80 : decode cX6_init 80 = .ok (.putfield 41, 3) := by decide +kernel
theorem dX6_init_83 : decode cX6_init 83 = .ok (.aload_n 0, 1) := by decide +kernel
theorem dX6_init_84 : decode cX6_init 84 = .ok (.bipush 24, 2) := by decide +kernel
theorem dX6_init_86 : decode cX6_init 86 = .ok (.newarray .int, 2) := by decide +kernel
theorem dX6_init_88 : decode cX6_init 88 = .ok (.putfield 44, 3) := by decide +kernel
theorem dX6_init_91 : decode cX6_init 91 = .ok (.aload_n 0, 1) := by decide +kernel
theorem dX6_init_92 : decode cX6_init 92 = .ok (.bipush 6, 2) := by decide +kernel
theorem dX6_init_94 : decode cX6_init 94 = .ok (.newarray .int, 2) := by decide +kernel
theorem dX6_init_96 : decode cX6_init 96 = .ok (.putfield 47, 3) := by decide +kernel
theorem dX6_init_99 : decode cX6_init 99 = .ok (.aload_n 0, 1) := by decide +kernel
theorem dX6_init_100 : decode cX6_init 100 = .ok (.iconst 5, 1) := by decide +kernel
theorem dX6_init_101 : decode cX6_init 101 = .ok (.newarray .int, 2) := by decide +kernel
theorem dX6_init_103 : decode cX6_init 103 = .ok (.putfield 50, 3) := by decide +kernel
theorem dX6_init_106 : decode cX6_init 106 = .ok (.aload_n 0, 1) := by decide +kernel
theorem dX6_init_107 : decode cX6_init 107 = .ok (.iconst 5, 1) := by decide +kernel
theorem dX6_init_108 : decode cX6_init 108 = .ok (.newarray .int, 2) := by decide +kernel
theorem dX6_init_110 : decode cX6_init 110 = .ok (.putfield 53, 3) := by decide +kernel
theorem dX6_init_113 : decode cX6_init 113 = .ok (.aload_n 0, 1) := by decide +kernel
theorem dX6_init_114 : decode cX6_init 114 = .ok (.bipush 64, 2) := by decide +kernel
theorem dX6_init_116 : decode cX6_init 116 = .ok (.newarray .int, 2) := by decide +kernel
theorem dX6_init_118 : decode cX6_init 118 = .ok (.putfield 56, 3) := by decide +kernel
theorem dX6_init_121 : decode cX6_init 121 = .ok (.aload_n 0, 1) := by decide +kernel
theorem dX6_init_122 : decode cX6_init 122 = .ok (.iconst 4, 1) := by decide +kernel
theorem dX6_init_123 : decode cX6_init 123 = .ok (.newarray .int, 2) := by decide +kernel
theorem dX6_init_125 : decode cX6_init 125 = .ok (.putfield 59, 3) := by decide +kernel
theorem dX6_init_128 : decode cX6_init 128 = .ok (.aload_n 0, 1) := by decide +kernel
theorem dX6_init_129 : decode cX6_init 129 = .ok (.iconst 4, 1) := by decide +kernel
theorem dX6_init_130 : decode cX6_init 130 = .ok (.newarray .int, 2) := by decide +kernel
theorem dX6_init_132 : decode cX6_init 132 = .ok (.putfield 62, 3) := by decide +kernel
theorem dX6_init_135 : decode cX6_init 135 = .ok (.aload_n 0, 1) := by decide +kernel
theorem dX6_init_136 : decode cX6_init 136 = .ok (.bipush 96, 2) := by decide +kernel
theorem dX6_init_138 : decode cX6_init 138 = .ok (.newarray .long, 2) := by decide +kernel
theorem dX6_init_140 : decode cX6_init 140 = .ok (.putfield 65, 3) := by decide +kernel
theorem dX6_init_143 : decode cX6_init 143 = .ok (.aload_n 0, 1) := by decide +kernel
theorem dX6_init_144 : decode cX6_init 144 = .ok (.bipush 24, 2) := by decide +kernel
theorem dX6_init_146 : decode cX6_init 146 = .ok (.newarray .long, 2) := by decide +kernel
theorem dX6_init_148 : decode cX6_init 148 = .ok (.putfield 69, 3) := by decide +kernel
theorem dX6_init_151 : decode cX6_init 151 = .ok (.iconst 0, 1) := by decide +kernel
theorem dX6_init_152 : decode cX6_init 152 = .ok (.istore_n 1, 1) := by decide +kernel
theorem dX6_init_153 : decode cX6_init 153 = .ok (.iload_n 1, 1) := by decide +kernel
theorem dX6_init_154 : decode cX6_init 154 = .ok (.iconst 4, 1) := by decide +kernel
theorem dX6_init_155 : decode cX6_init 155 = .ok (.if_icmp .ge 16, 3) := by decide +kernel
theorem dX6_init_158 : decode cX6_init 158 = .ok (.aload_n 0, 1) := by decide +kernel
theorem dX6_init_159 : decode cX6_init 159 = .ok (.getfield 59, 3) := by decide +kernel
theorem dX6_init_162 : decode cX6_init 162 = .ok (.iload_n 1, 1) := by decide +kernel
theorem dX6_init_163 : decode cX6_init 163 = .ok (.iconst (-1), 1) := by decide +kernel
theorem dX6_init_164 : decode cX6_init 164 = .ok (.iastore, 1) := by decide +kernel
theorem dX6_init_165 : decode cX6_init 165 = .ok (.iinc 1 1, 3) := by decide +kernel
theorem dX6_init_168 : decode cX6_init 168 = .ok (.goto (-15), 3) := by decide +kernel
theorem dX6_init_171 : decode cX6_init 171 = .ok (.return_, 1) := by decide +kernel
theorem dX6_in_0 : decode cX6_in 0 = .ok (.lload_n 0, 1) := by decide +kernel
theorem dX6_in_1 : decode cX6_in 1 = .ok (.lload_n 2, 1) := by decide +kernel
theorem dX6_in_2 : decode cX6_in 2 = .ok (.lcmp, 1) := by decide +kernel
theorem dX6_in_3 : decode cX6_in 3 = .ok (.ifCond .lt 14, 3) := by decide +kernel
theorem dX6_in_6 : decode cX6_in 6 = .ok (.lload_n 0, 1) := by decide +kernel
theorem dX6_in_7 : decode cX6_in 7 = .ok (.lload 4, 2) := by decide +kernel
theorem dX6_in_9 : decode cX6_in 9 = .ok (.lcmp, 1) := by decide +kernel
theorem dX6_in_10 : decode cX6_in 10 = .ok (.ifCond .gt 7, 3) := by decide +kernel
theorem dX6_in_13 : decode cX6_in 13 = .ok (.iconst 1, 1) := by decide +kernel
theorem dX6_in_14 : decode cX6_in 14 = .ok (.goto 4, 3) := by decide +kernel
theorem dX6_in_17 : decode cX6_in 17 = .ok (.iconst 0, 1) := by decide +kernel
theorem dX6_in_18 : decode cX6_in 18 = .ok (.ireturn, 1) := by decide +kernel
theorem dX6_has_0 : decode cX6_has 0 = .ok (.iload_n 0, 1) := by decide +kernel
theorem dX6_has_1 : decode cX6_has 1 = .ok (.iload_n 1, 1) := by decide +kernel
theorem dX6_has_2 : decode cX6_has 2 = .ok (.ishr, 1) := by decide +kernel
theorem dX6_has_3 : decode cX6_has 3 = .ok (.iconst 1, 1) := by decide +kernel
theorem dX6_has_4 : decode cX6_has 4 = .ok (.iand, 1) := by decide +kernel
theorem dX6_has_5 : decode cX6_has 5 = .ok (.iconst 1, 1) := by decide +kernel
theorem dX6_has_6 : decode cX6_has 6 = .ok (.if_icmp .ne 7, 3) := by decide +kernel
theorem dX6_has_9 : decode cX6_has 9 = .ok (.iconst 1, 1) := by decide +kernel
theorem dX6_has_10 : decode cX6_has 10 = .ok (.goto 4, 3) := by decide +kernel
theorem dX6_has_13 : decode cX6_has 13 = .ok (.iconst 0, 1) := by decide +kernel
theorem dX6_has_14 : decode cX6_has 14 = .ok (.ireturn, 1) := by decide +kernel
theorem dX6_isOne_0 : decode cX6_isOne 0 = .ok (.iload_n 1, 1) := by decide +kernel
theorem dX6_isOne_1 : decode cX6_isOne 1 = .ok (.i2l, 1) := by decide +kernel
theorem dX6_isOne_2 : decode cX6_isOne 2 = .ok (.lconst 0, 1) := by decide +kernel
theorem dX6_isOne_3 : decode cX6_isOne 3 = .ok (.aload_n 0, 1) := by decide +kernel
theorem dX6_isOne_4 : decode cX6_isOne 4 = .ok (.getfield 72, 3) := by decide +kernel
theorem dX6_isOne_7 : decode cX6_isOne 7 = .ok (.iconst 1, 1) := by decide +kernel
theorem dX6_isOne_8 : decode cX6_isOne 8 = .ok (.isub, 1) := by decide +kernel
theorem dX6_isOne_9 : decode cX6_isOne 9 = .ok (.i2l, 1) := by decide +kernel
theorem dX6_isOne_10 : decode cX6_isOne 10 = .ok (.invokestatic 75, 3) := by decide +kernel
theorem dX6_isOne_13 : decode cX6_isOne 13 = .ok (.ireturn, 1) := by decide +kernel
theorem dX6_isMood_0 : decode cX6_isMood 0 = .ok (.iload_n 0, 1) := by decide +kernel
theorem dX6_isMood_1 : decode cX6_isMood 1 = .ok (.i2l, 1) := by decide +kernel
theorem dX6_isMood_2 : decode cX6_isMood 2 = .ok (.ldc2_w 79, 3) := by decide +kernel
theorem dX6_isMood_5 : decode cX6_isMood 5 = .ok (.ldc2_w 81, 3) := by decide +kernel
theorem dX6_isMood_8 : decode cX6_isMood 8 = .ok (.invokestatic 75, 3) := by decide +kernel
theorem dX6_isMood_11 : decode cX6_isMood 11 = .ok (.ireturn, 1) := by decide +kernel
theorem dX6_add_0 : decode cX6_add 0 = .ok (.aload_n 0, 1) := by decide +kernel
theorem dX6_add_1 : decode cX6_add 1 = .ok (.getfield 7, 3) := by decide +kernel
theorem dX6_add_4 : decode cX6_add 4 = .ok (.aload_n 0, 1) := by decide +kernel
theorem dX6_add_5 : decode cX6_add 5 = .ok (.getfield 72, 3) := by decide +kernel
theorem dX6_add_8 : decode cX6_add 8 = .ok (.iload_n 1, 1) := by decide +kernel
theorem dX6_add_9 : decode cX6_add 9 = .ok (.iastore, 1) := by decide +kernel
theorem dX6_add_10 : decode cX6_add 10 = .ok (.aload_n 0, 1) := by decide +kernel
theorem dX6_add_11 : decode cX6_add 11 = .ok (.getfield 13, 3) := by decide +kernel
theorem dX6_add_14 : decode cX6_add 14 = .ok (.aload_n 0, 1) := by decide +kernel
theorem dX6_add_15 : decode cX6_add 15 = .ok (.getfield 72, 3) := by decide +kernel
theorem dX6_add_18 : decode cX6_add 18 = .ok (.iload_n 2, 1) := by decide +kernel
theorem dX6_add_19 : decode cX6_add 19 = .ok (.iastore, 1) := by decide +kernel
theorem dX6_add_20 : decode cX6_add 20 = .ok (.aload_n 0, 1) := by decide +kernel
theorem dX6_add_21 : decode cX6_add 21 = .ok (.getfield 16, 3) := by decide +kernel
theorem dX6_add_24 : decode cX6_add 24 = .ok (.aload_n 0, 1) := by decide +kernel
theorem dX6_add_25 : decode cX6_add 25 = .ok (.getfield 72, 3) := by decide +kernel
theorem dX6_add_28 : decode cX6_add 28 = .ok (.iload_n 3, 1) := by decide +kernel
theorem dX6_add_29 : decode cX6_add 29 = .ok (.iastore, 1) := by decide +kernel
theorem dX6_add_30 : decode cX6_add 30 = .ok (.aload_n 0, 1) := by decide +kernel
theorem dX6_add_31 : decode cX6_add 31 = .ok (.getfield 19, 3) := by decide +kernel
theorem dX6_add_34 : decode cX6_add 34 = .ok (.aload_n 0, 1) := by decide +kernel
theorem dX6_add_35 : decode cX6_add 35 = .ok (.getfield 72, 3) := by decide +kernel
theorem dX6_add_38 : decode cX6_add 38 = .ok (.iconst 0, 1) := by decide +kernel
theorem dX6_add_39 : decode cX6_add 39 = .ok (.iastore, 1) := by decide +kernel
theorem dX6_add_40 : decode cX6_add 40 = .ok (.aload_n 0, 1) := by decide +kernel
theorem dX6_add_41 : decode cX6_add 41 = .ok (.getfield 22, 3) := by decide +kernel
theorem dX6_add_44 : decode cX6_add 44 = .ok (.aload_n 0, 1) := by decide +kernel
theorem dX6_add_45 : decode cX6_add 45 = .ok (.getfield 72, 3) := by decide +kernel
theorem dX6_add_48 : decode cX6_add 48 = .ok (.iconst 0, 1) := by decide +kernel
theorem dX6_add_49 : decode cX6_add 49 = .ok (.iastore, 1) := by decide +kernel
theorem dX6_add_50 : decode cX6_add 50 = .ok (.aload_n 0, 1) := by decide +kernel
theorem dX6_add_51 : decode cX6_add 51 = .ok (.dup, 1) := by decide +kernel
theorem dX6_add_52 : decode cX6_add 52 = .ok (.getfield 72, 3) := by decide +kernel
theorem dX6_add_55 : decode cX6_add 55 = .ok (.iconst 1, 1) := by decide +kernel
theorem dX6_add_56 : decode cX6_add 56 = .ok (.iadd, 1) := by decide +kernel
theorem dX6_add_57 : decode cX6_add 57 = .ok (.putfield 72, 3) := by decide +kernel
theorem dX6_add_60 : decode cX6_add 60 = .ok (.return_, 1) := by decide +kernel
theorem dX6_folk_0 : decode cX6_folk 0 = .ok (.iload_n 1, 1) := by decide +kernel
theorem dX6_folk_1 : decode cX6_folk 1 = .ok (.i2l, 1) := by decide +kernel
theorem dX6_folk_2 : decode cX6_folk 2 = .ok (.lconst 0, 1) := by decide +kernel
theorem dX6_folk_3 : decode cX6_folk 3 = .ok (.ldc2_w 83, 3) := by decide +kernel
theorem dX6_folk_6 : decode cX6_folk 6 = .ok (.invokestatic 75, 3) := by decide +kernel
theorem dX6_folk_9 : decode cX6_folk 9 = .ok (.ifCond .eq 29, 3) := by decide +kernel
theorem dX6_folk_12 : decode cX6_folk 12 = .ok (.iload_n 2, 1) := by decide +kernel
theorem dX6_folk_13 : decode cX6_folk 13 = .ok (.i2l, 1) := by decide +kernel
theorem dX6_folk_14 : decode cX6_folk 14 = .ok (.ldc2_w 85, 3) := by decide +kernel
theorem dX6_folk_17 : decode cX6_folk 17 = .ok (.ldc2_w 83, 3) := by decide +kernel
theorem dX6_folk_20 : decode cX6_folk 20 = .ok (.invokestatic 75, 3) := by decide +kernel
theorem dX6_folk_23 : decode cX6_folk 23 = .ok (.ifCond .eq 15, 3) := by decide +kernel
theorem dX6_folk_26 : decode cX6_folk 26 = .ok (.iload_n 3, 1) := by decide +kernel
theorem dX6_folk_27 : decode cX6_folk 27 = .ok (.i2l, 1) := by decide +kernel
theorem dX6_folk_28 : decode cX6_folk 28 = .ok (.lconst 1, 1) := by decide +kernel
theorem dX6_folk_29 : decode cX6_folk 29 = .ok (.ldc2_w 81, 3) := by decide +kernel
theorem dX6_folk_32 : decode cX6_folk 32 = .ok (.invokestatic 75, 3) := by decide +kernel
theorem dX6_folk_35 : decode cX6_folk 35 = .ok (.ifCond .ne 5, 3) := by decide +kernel
theorem dX6_folk_38 : decode cX6_folk 38 = .ok (.iconst (-1), 1) := by decide +kernel
theorem dX6_folk_39 : decode cX6_folk 39 = .ok (.ireturn, 1) := by decide +kernel
theorem dX6_folk_40 : decode cX6_folk 40 = .ok (.aload_n 0, 1) := by decide +kernel
theorem dX6_folk_41 : decode cX6_folk 41 = .ok (.getfield 72, 3) := by decide +kernel
theorem dX6_folk_44 : decode cX6_folk 44 = .ok (.bipush 6, 2) := by decide +kernel
theorem dX6_folk_46 : decode cX6_folk 46 = .ok (.if_icmp .ne 6, 3) := by decide +kernel
theorem dX6_folk_49 : decode cX6_folk 49 = .ok (.bipush (-3), 2) := by decide +kernel
theorem dX6_folk_51 : decode cX6_folk 51 = .ok (.ireturn, 1) := by decide +kernel
theorem dX6_folk_52 : decode cX6_folk 52 = .ok (.aload_n 0, 1) := by decide +kernel
theorem dX6_folk_53 : decode cX6_folk 53 = .ok (.iload_n 1, 1) := by decide +kernel
theorem dX6_folk_54 : decode cX6_folk 54 = .ok (.iload_n 2, 1) := by decide +kernel
theorem dX6_folk_55 : decode cX6_folk 55 = .ok (.iload_n 3, 1) := by decide +kernel
theorem dX6_folk_56 : decode cX6_folk 56 = .ok (.invokevirtual 87, 3) := by decide +kernel
theorem dX6_folk_59 : decode cX6_folk 59 = .ok (.aload_n 0, 1) := by decide +kernel
theorem dX6_folk_60 : decode cX6_folk 60 = .ok (.getfield 72, 3) := by decide +kernel
theorem dX6_folk_63 : decode cX6_folk 63 = .ok (.iconst 1, 1) := by decide +kernel
theorem dX6_folk_64 : decode cX6_folk 64 = .ok (.isub, 1) := by decide +kernel
theorem dX6_folk_65 : decode cX6_folk 65 = .ok (.ireturn, 1) := by decide +kernel
theorem dX6_told_0 : decode cX6_told 0 = .ok (.aload_n 0, 1) := by decide +kernel
theorem dX6_told_1 : decode cX6_told 1 = .ok (.iload_n 1, 1) := by decide +kernel
theorem dX6_told_2 : decode cX6_told 2 = .ok (.invokevirtual 91, 3) := by decide +kernel
theorem dX6_told_5 : decode cX6_told 5 = .ok (.ifCond .eq 15, 3) := by decide +kernel
theorem dX6_told_8 : decode cX6_told 8 = .ok (.iload_n 2, 1) := by decide +kernel
theorem dX6_told_9 : decode cX6_told 9 = .ok (.i2l, 1) := by decide +kernel
theorem dX6_told_10 : decode cX6_told 10 = .ok (.lconst 0, 1) := by decide +kernel
theorem dX6_told_11 : decode cX6_told 11 = .ok (.ldc2_w 95, 3) := by decide +kernel
theorem dX6_told_14 : decode cX6_told 14 = .ok (.invokestatic 75, 3) := by decide +kernel
theorem dX6_told_17 : decode cX6_told 17 = .ok (.ifCond .ne 6, 3) := by decide +kernel
theorem dX6_told_20 : decode cX6_told 20 = .ok (.ldc 97, 2) := by decide +kernel
theorem dX6_told_22 : decode cX6_told 22 = .ok (.ireturn, 1) := by decide +kernel
theorem dX6_told_23 : decode cX6_told 23 = .ok (.aload_n 0, 1) := by decide +kernel
theorem dX6_told_24 : decode cX6_told 24 = .ok (.getfield 22, 3) := by decide +kernel
theorem dX6_told_27 : decode cX6_told 27 = .ok (.iload_n 1, 1) := by decide +kernel
theorem dX6_told_28 : decode cX6_told 28 = .ok (.iaload, 1) := by decide +kernel
theorem dX6_told_29 : decode cX6_told 29 = .ok (.aload_n 0, 1) := by decide +kernel
theorem dX6_told_30 : decode cX6_told 30 = .ok (.getfield 98, 3) := by decide +kernel
theorem dX6_told_33 : decode cX6_told 33 = .ok (.if_icmp .le 17, 3) := by decide +kernel
theorem dX6_told_36 : decode cX6_told 36 = .ok (.aload_n 0, 1) := by decide +kernel
theorem dX6_told_37 : decode cX6_told 37 = .ok (.getfield 22, 3) := by decide +kernel
theorem dX6_told_40 : decode cX6_told 40 = .ok (.iload_n 1, 1) := by decide +kernel
theorem dX6_told_41 : decode cX6_told 41 = .ok (.iaload, 1) := by decide +kernel
theorem dX6_told_42 : decode cX6_told 42 = .ok (.aload_n 0, 1) := by decide +kernel
theorem dX6_told_43 : decode cX6_told 43 = .ok (.getfield 98, 3) := by decide +kernel
theorem dX6_told_46 : decode cX6_told 46 = .ok (.isub, 1) := by decide +kernel
theorem dX6_told_47 : decode cX6_told 47 = .ok (.goto 4, 3) := by decide +kernel
theorem dX6_told_50 : decode cX6_told 50 = .ok (.iconst 0, 1) := by decide +kernel
theorem dX6_told_51 : decode cX6_told 51 = .ok (.istore_n 3, 1) := by decide +kernel
theorem dX6_told_52 : decode cX6_told 52 = .ok (.iload_n 2, 1) := by decide +kernel
theorem dX6_told_53 : decode cX6_told 53 = .ok (.ifCond .ne 12, 3) := by decide +kernel
theorem dX6_told_56 : decode cX6_told 56 = .ok (.aload_n 0, 1) := by decide +kernel
theorem dX6_told_57 : decode cX6_told 57 = .ok (.getfield 7, 3) := by decide +kernel
theorem dX6_told_60 : decode cX6_told 60 = .ok (.iload_n 1, 1) := by decide +kernel
theorem dX6_told_61 : decode cX6_told 61 = .ok (.iaload, 1) := by decide +kernel
theorem dX6_told_62 : decode cX6_told 62 = .ok (.goto 46, 3) := by decide +kernel
theorem dX6_told_65 : decode cX6_told 65 = .ok (.iload_n 2, 1) := by decide +kernel
theorem dX6_told_66 : decode cX6_told 66 = .ok (.iconst 1, 1) := by decide +kernel
theorem dX6_told_67 : decode cX6_told 67 = .ok (.if_icmp .ne 12, 3) := by decide +kernel
theorem dX6_told_70 : decode cX6_told 70 = .ok (.aload_n 0, 1) := by decide +kernel
theorem dX6_told_71 : decode cX6_told 71 = .ok (.getfield 13, 3) := by decide +kernel
theorem dX6_told_74 : decode cX6_told 74 = .ok (.iload_n 1, 1) := by decide +kernel
theorem dX6_told_75 : decode cX6_told 75 = .ok (.iaload, 1) := by decide +kernel
theorem dX6_told_76 : decode cX6_told 76 = .ok (.goto 32, 3) := by decide +kernel
theorem dX6_told_79 : decode cX6_told 79 = .ok (.iload_n 2, 1) := by decide +kernel
theorem dX6_told_80 : decode cX6_told 80 = .ok (.iconst 2, 1) := by decide +kernel
theorem dX6_told_81 : decode cX6_told 81 = .ok (.if_icmp .ne 12, 3) := by decide +kernel
theorem dX6_told_84 : decode cX6_told 84 = .ok (.aload_n 0, 1) := by decide +kernel
theorem dX6_told_85 : decode cX6_told 85 = .ok (.getfield 16, 3) := by decide +kernel
theorem dX6_told_88 : decode cX6_told 88 = .ok (.iload_n 1, 1) := by decide +kernel
theorem dX6_told_89 : decode cX6_told 89 = .ok (.iaload, 1) := by decide +kernel
theorem dX6_told_90 : decode cX6_told 90 = .ok (.goto 18, 3) := by decide +kernel
theorem dX6_told_93 : decode cX6_told 93 = .ok (.iload_n 2, 1) := by decide +kernel
theorem dX6_told_94 : decode cX6_told 94 = .ok (.iconst 3, 1) := by decide +kernel
theorem dX6_told_95 : decode cX6_told 95 = .ok (.if_icmp .ne 7, 3) := by decide +kernel
theorem dX6_told_98 : decode cX6_told 98 = .ok (.iload_n 3, 1) := by decide +kernel
theorem dX6_told_99 : decode cX6_told 99 = .ok (.goto 9, 3) := by decide +kernel
theorem dX6_told_102 : decode cX6_told 102 = .ok (.aload_n 0, 1) := by decide +kernel
theorem dX6_told_103 : decode cX6_told 103 = .ok (.getfield 19, 3) := by decide +kernel
theorem dX6_told_106 : decode cX6_told 106 = .ok (.iload_n 1, 1) := by decide +kernel
theorem dX6_told_107 : decode cX6_told 107 = .ok (.iaload, 1) := by decide +kernel
theorem dX6_told_108 : decode cX6_told 108 = .ok (.ireturn, 1) := by decide +kernel
theorem dX6_setQuarrel_0 : decode cX6_setQuarrel 0 = .ok (.aload_n 0, 1) := by decide +kernel
theorem dX6_setQuarrel_1 : decode cX6_setQuarrel 1 = .ok (.getfield 19, 3) := by decide +kernel
theorem dX6_setQuarrel_4 : decode cX6_setQuarrel 4 = .ok (.iload_n 1, 1) := by decide +kernel
theorem dX6_setQuarrel_5 : decode cX6_setQuarrel 5 = .ok (.iload_n 3, 1) := by decide +kernel
theorem dX6_setQuarrel_6 : decode cX6_setQuarrel 6 = .ok (.ifCond .eq 16, 3) := by decide +kernel
theorem dX6_setQuarrel_9 : decode cX6_setQuarrel 9 = .ok (.aload_n 0, 1) := by decide +kernel
theorem dX6_setQuarrel_10 : decode cX6_setQuarrel 10 = .ok (.getfield 19, 3) := by decide +kernel
theorem dX6_setQuarrel_13 : decode cX6_setQuarrel 13 = .ok (.iload_n 1, 1) := by decide +kernel
theorem dX6_setQuarrel_14 : decode cX6_setQuarrel 14 = .ok (.iaload, 1) := by decide +kernel
theorem dX6_setQuarrel_15 : decode cX6_setQuarrel 15 = .ok (.iconst 1, 1) := by decide +kernel
theorem dX6_setQuarrel_16 : decode cX6_setQuarrel 16 = .ok (.iload_n 2, 1) := by decide +kernel
theorem dX6_setQuarrel_17 : decode cX6_setQuarrel 17 = .ok (.ishl, 1) := by decide +kernel
theorem dX6_setQuarrel_18 : decode cX6_setQuarrel 18 = .ok (.ior, 1) := by decide +kernel
theorem dX6_setQuarrel_19 : decode cX6_setQuarrel 19 = .ok (.goto 15, 3) := by decide +kernel
theorem dX6_setQuarrel_22 : decode cX6_setQuarrel 22 = .ok (.aload_n 0, 1) := by decide +kernel
theorem dX6_setQuarrel_23 : decode cX6_setQuarrel 23 = .ok (.getfield 19, 3) := by decide +kernel
theorem dX6_setQuarrel_26 : decode cX6_setQuarrel 26 = .ok (.iload_n 1, 1) := by decide +kernel
theorem dX6_setQuarrel_27 : decode cX6_setQuarrel 27 = .ok (.iaload, 1) := by decide +kernel
theorem dX6_setQuarrel_28 : decode cX6_setQuarrel 28 = .ok (.iconst 1, 1) := by decide +kernel
theorem dX6_setQuarrel_29 : decode cX6_setQuarrel 29 = .ok (.iload_n 2, 1) := by decide +kernel
theorem dX6_setQuarrel_30 : decode cX6_setQuarrel 30 = .ok (.ishl, 1) := by decide +kernel
theorem dX6_setQuarrel_31 : decode cX6_setQuarrel 31 = .ok (.iconst (-1), 1) := by decide +kernel
theorem dX6_setQuarrel_32 : decode cX6_setQuarrel 32 = .ok (.ixor, 1) := by decide +kernel
theorem dX6_setQuarrel_33 : decode cX6_setQuarrel 33 = .ok (.iand, 1) := by decide +kernel
theorem dX6_setQuarrel_34 : decode cX6_setQuarrel 34 = .ok (.iastore, 1) := by decide +kernel
theorem dX6_setQuarrel_35 : decode cX6_setQuarrel 35 = .ok (.aload_n 0, 1) := by decide +kernel
theorem dX6_setQuarrel_36 : decode cX6_setQuarrel 36 = .ok (.getfield 19, 3) := by decide +kernel
theorem dX6_setQuarrel_39 : decode cX6_setQuarrel 39 = .ok (.iload_n 2, 1) := by decide +kernel
theorem dX6_setQuarrel_40 : decode cX6_setQuarrel 40 = .ok (.iload_n 3, 1) := by decide +kernel
theorem dX6_setQuarrel_41 : decode cX6_setQuarrel 41 = .ok (.ifCond .eq 16, 3) := by decide +kernel
theorem dX6_setQuarrel_44 : decode cX6_setQuarrel 44 = .ok (.aload_n 0, 1) := by decide +kernel
theorem dX6_setQuarrel_45 : decode cX6_setQuarrel 45 = .ok (.getfield 19, 3) := by decide +kernel
theorem dX6_setQuarrel_48 : decode cX6_setQuarrel 48 = .ok (.iload_n 2, 1) := by decide +kernel
theorem dX6_setQuarrel_49 : decode cX6_setQuarrel 49 = .ok (.iaload, 1) := by decide +kernel
theorem dX6_setQuarrel_50 : decode cX6_setQuarrel 50 = .ok (.iconst 1, 1) := by decide +kernel
theorem dX6_setQuarrel_51 : decode cX6_setQuarrel 51 = .ok (.iload_n 1, 1) := by decide +kernel
theorem dX6_setQuarrel_52 : decode cX6_setQuarrel 52 = .ok (.ishl, 1) := by decide +kernel
theorem dX6_setQuarrel_53 : decode cX6_setQuarrel 53 = .ok (.ior, 1) := by decide +kernel
theorem dX6_setQuarrel_54 : decode cX6_setQuarrel 54 = .ok (.goto 15, 3) := by decide +kernel
theorem dX6_setQuarrel_57 : decode cX6_setQuarrel 57 = .ok (.aload_n 0, 1) := by decide +kernel
theorem dX6_setQuarrel_58 : decode cX6_setQuarrel 58 = .ok (.getfield 19, 3) := by decide +kernel
theorem dX6_setQuarrel_61 : decode cX6_setQuarrel 61 = .ok (.iload_n 2, 1) := by decide +kernel
theorem dX6_setQuarrel_62 : decode cX6_setQuarrel 62 = .ok (.iaload, 1) := by decide +kernel
theorem dX6_setQuarrel_63 : decode cX6_setQuarrel 63 = .ok (.iconst 1, 1) := by decide +kernel
theorem dX6_setQuarrel_64 : decode cX6_setQuarrel 64 = .ok (.iload_n 1, 1) := by decide +kernel
theorem dX6_setQuarrel_65 : decode cX6_setQuarrel 65 = .ok (.ishl, 1) := by decide +kernel
theorem dX6_setQuarrel_66 : decode cX6_setQuarrel 66 = .ok (.iconst (-1), 1) := by decide +kernel
theorem dX6_setQuarrel_67 : decode cX6_setQuarrel 67 = .ok (.ixor, 1) := by decide +kernel
theorem dX6_setQuarrel_68 : decode cX6_setQuarrel 68 = .ok (.iand, 1) := by decide +kernel
theorem dX6_setQuarrel_69 : decode cX6_setQuarrel 69 = .ok (.iastore, 1) := by decide +kernel
theorem dX6_setQuarrel_70 : decode cX6_setQuarrel 70 = .ok (.return_, 1) := by decide +kernel
theorem dX6_quarrel_0 : decode cX6_quarrel 0 = .ok (.aload_n 0, 1) := by decide +kernel
theorem dX6_quarrel_1 : decode cX6_quarrel 1 = .ok (.iload_n 1, 1) := by decide +kernel
theorem dX6_quarrel_2 : decode cX6_quarrel 2 = .ok (.invokevirtual 91, 3) := by decide +kernel
theorem dX6_quarrel_5 : decode cX6_quarrel 5 = .ok (.ifCond .eq 16, 3) := by decide +kernel
theorem dX6_quarrel_8 : decode cX6_quarrel 8 = .ok (.aload_n 0, 1) := by decide +kernel
theorem dX6_quarrel_9 : decode cX6_quarrel 9 = .ok (.iload_n 2, 1) := by decide +kernel
theorem dX6_quarrel_10 : decode cX6_quarrel 10 = .ok (.invokevirtual 91, 3) := by decide +kernel
theorem dX6_quarrel_13 : decode cX6_quarrel 13 = .ok (.ifCond .eq 8, 3) := by decide +kernel
theorem dX6_quarrel_16 : decode cX6_quarrel 16 = .ok (.iload_n 1, 1) := by decide +kernel
theorem dX6_quarrel_17 : decode cX6_quarrel 17 = .ok (.iload_n 2, 1) := by decide +kernel
theorem dX6_quarrel_18 : decode cX6_quarrel 18 = .ok (.if_icmp .ne 5, 3) := by decide +kernel
theorem dX6_quarrel_21 : decode cX6_quarrel 21 = .ok (.iconst (-1), 1) := by decide +kernel
theorem dX6_quarrel_22 : decode cX6_quarrel 22 = .ok (.ireturn, 1) := by decide +kernel
theorem dX6_quarrel_23 : decode cX6_quarrel 23 = .ok (.aload_n 0, 1) := by decide +kernel
theorem dX6_quarrel_24 : decode cX6_quarrel 24 = .ok (.getfield 19, 3) := by decide +kernel
theorem dX6_quarrel_27 : decode cX6_quarrel 27 = .ok (.iload_n 1, 1) := by decide +kernel
theorem dX6_quarrel_28 : decode cX6_quarrel 28 = .ok (.iaload, 1) := by decide +kernel
theorem dX6_quarrel_29 : decode cX6_quarrel 29 = .ok (.iload_n 2, 1) := by decide +kernel
theorem dX6_quarrel_30 : decode cX6_quarrel 30 = .ok (.ishr, 1) := by decide +kernel
theorem dX6_quarrel_31 : decode cX6_quarrel 31 = .ok (.iconst 1, 1) := by decide +kernel
theorem dX6_quarrel_32 : decode cX6_quarrel 32 = .ok (.iand, 1) := by decide +kernel
theorem dX6_quarrel_33 : decode cX6_quarrel 33 = .ok (.istore 4, 2) := by decide +kernel
theorem dX6_quarrel_35 : decode cX6_quarrel 35 = .ok (.aload_n 0, 1) := by decide +kernel
theorem dX6_quarrel_36 : decode cX6_quarrel 36 = .ok (.iload_n 1, 1) := by decide +kernel
theorem dX6_quarrel_37 : decode cX6_quarrel 37 = .ok (.iload_n 2, 1) := by decide +kernel
theorem dX6_quarrel_38 : decode cX6_quarrel 38 = .ok (.iload_n 3, 1) := by decide +kernel
theorem dX6_quarrel_39 : decode cX6_quarrel 39 = .ok (.invokevirtual 101, 3) := by decide +kernel
theorem dX6_quarrel_42 : decode cX6_quarrel 42 = .ok (.iload 4, 2) := by decide +kernel
theorem dX6_quarrel_44 : decode cX6_quarrel 44 = .ok (.ireturn, 1) := by decide +kernel
theorem dX6_set_0 : decode cX6_set 0 = .ok (.iload_n 1, 1) := by decide +kernel
theorem dX6_set_1 : decode cX6_set 1 = .ok (.i2l, 1) := by decide +kernel
theorem dX6_set_2 : decode cX6_set 2 = .ok (.lconst 0, 1) := by decide +kernel
theorem dX6_set_3 : decode cX6_set 3 = .ok (.ldc2_w 105, 3) := by decide +kernel
theorem dX6_set_6 : decode cX6_set 6 = .ok (.invokestatic 75, 3) := by decide +kernel
theorem dX6_set_9 : decode cX6_set 9 = .ok (.ifCond .eq 40, 3) := by decide +kernel
theorem dX6_set_12 : decode cX6_set 12 = .ok (.iload_n 1, 1) := by decide +kernel
theorem dX6_set_13 : decode cX6_set 13 = .ok (.ifCond .ne 13, 3) := by decide +kernel
theorem dX6_set_16 : decode cX6_set 16 = .ok (.iload_n 2, 1) := by decide +kernel
theorem dX6_set_17 : decode cX6_set 17 = .ok (.invokestatic 107, 3) := by decide +kernel
theorem dX6_set_20 : decode cX6_set 20 = .ok (.ifCond .eq 29, 3) := by decide +kernel
theorem dX6_set_23 : decode cX6_set 23 = .ok (.goto 29, 3) := by decide +kernel
theorem dX6_set_26 : decode cX6_set 26 = .ok (.iload_n 2, 1) := by decide +kernel
theorem dX6_set_27 : decode cX6_set 27 = .ok (.i2l, 1) := by decide +kernel
theorem dX6_set_28 : decode cX6_set 28 = .ok (.lconst 0, 1) := by decide +kernel
theorem dX6_set_29 : decode cX6_set 29 = .ok (.iload_n 1, 1) := by decide +kernel
theorem dX6_set_30 : decode cX6_set 30 = .ok (.iconst 1, 1) := by decide +kernel
theorem dX6_set_31 : decode cX6_set 31 = .ok (.if_icmp .ne 9, 3) := by decide +kernel
theorem dX6_set_34 : decode cX6_set 34 = .ok (.ldc2_w 110, 3) := by decide +kernel
theorem dX6_set_37 : decode cX6_set 37 = .ok (.goto 6, 3) := by decide +kernel
theorem dX6_set_40 : decode cX6_set 40 = .ok (.ldc2_w 81, 3) := by decide +kernel
theorem dX6_set_43 : decode cX6_set 43 = .ok (.invokestatic 75, 3) := by decide +kernel
theorem dX6_set_46 : decode cX6_set 46 = .ok (.ifCond .ne 6, 3) := by decide +kernel
theorem dX6_set_49 : decode cX6_set 49 = .ok (.ldc 97, 2) := by decide +kernel
theorem dX6_set_51 : decode cX6_set 51 = .ok (.ireturn, 1) := by decide +kernel
theorem dX6_set_52 : decode cX6_set 52 = .ok (.iload_n 1, 1) := by decide +kernel
theorem dX6_set_53 : decode cX6_set 53 = .ok (.ifCond .ne 10, 3) := by decide +kernel
theorem dX6_set_56 : decode cX6_set 56 = .ok (.aload_n 0, 1) := by decide +kernel
theorem dX6_set_57 : decode cX6_set 57 = .ok (.getfield 112, 3) := by decide +kernel
theorem dX6_set_60 : decode cX6_set 60 = .ok (.goto 19, 3) := by decide +kernel
theorem dX6_set_63 : decode cX6_set 63 = .ok (.iload_n 1, 1) := by decide +kernel
theorem dX6_set_64 : decode cX6_set 64 = .ok (.iconst 1, 1) := by decide +kernel
theorem dX6_set_65 : decode cX6_set 65 = .ok (.if_icmp .ne 10, 3) := by decide +kernel
theorem dX6_set_68 : decode cX6_set 68 = .ok (.aload_n 0, 1) := by decide +kernel
theorem dX6_set_69 : decode cX6_set 69 = .ok (.getfield 25, 3) := by decide +kernel
theorem dX6_set_72 : decode cX6_set 72 = .ok (.goto 7, 3) := by decide +kernel
theorem dX6_set_75 : decode cX6_set 75 = .ok (.aload_n 0, 1) := by decide +kernel
theorem dX6_set_76 : decode cX6_set 76 = .ok (.getfield 29, 3) := by decide +kernel
theorem dX6_set_79 : decode cX6_set 79 = .ok (.istore_n 3, 1) := by decide +kernel
theorem dX6_set_80 : decode cX6_set 80 = .ok (.aload_n 0, 1) := by decide +kernel
theorem dX6_set_81 : decode cX6_set 81 = .ok (.iload_n 1, 1) := by decide +kernel
theorem dX6_set_82 : decode cX6_set 82 = .ok (.ifCond .ne 7, 3) := by decide +kernel
theorem dX6_set_85 : decode cX6_set 85 = .ok (.iload_n 2, 1) := by decide +kernel
theorem dX6_set_86 : decode cX6_set 86 = .ok (.goto 7, 3) := by decide +kernel
theorem dX6_set_89 : decode cX6_set 89 = .ok (.aload_n 0, 1) := by decide +kernel
theorem dX6_set_90 : decode cX6_set 90 = .ok (.getfield 112, 3) := by decide +kernel
theorem dX6_set_93 : decode cX6_set 93 = .ok (.putfield 112, 3) := by decide +kernel
theorem dX6_set_96 : decode cX6_set 96 = .ok (.aload_n 0, 1) := by decide +kernel
theorem dX6_set_97 : decode cX6_set 97 = .ok (.iload_n 1, 1) := by decide +kernel
theorem dX6_set_98 : decode cX6_set 98 = .ok (.iconst 1, 1) := by decide +kernel
theorem dX6_set_99 : decode cX6_set 99 = .ok (.if_icmp .ne 7, 3) := by decide +kernel
theorem dX6_set_102 : decode cX6_set 102 = .ok (.iload_n 2, 1) := by decide +kernel
theorem dX6_set_103 : decode cX6_set 103 = .ok (.goto 7, 3) := by decide +kernel
theorem dX6_set_106 : decode cX6_set 106 = .ok (.aload_n 0, 1) := by decide +kernel
theorem dX6_set_107 : decode cX6_set 107 = .ok (.getfield 25, 3) := by decide +kernel
theorem dX6_set_110 : decode cX6_set 110 = .ok (.putfield 25, 3) := by decide +kernel
theorem dX6_set_113 : decode cX6_set 113 = .ok (.aload_n 0, 1) := by decide +kernel
theorem dX6_set_114 : decode cX6_set 114 = .ok (.iload_n 1, 1) := by decide +kernel
theorem dX6_set_115 : decode cX6_set 115 = .ok (.iconst 2, 1) := by decide +kernel
theorem dX6_set_116 : decode cX6_set 116 = .ok (.if_icmp .ne 7, 3) := by decide +kernel
theorem dX6_set_119 : decode cX6_set 119 = .ok (.iload_n 2, 1) := by decide +kernel
theorem dX6_set_120 : decode cX6_set 120 = .ok (.goto 7, 3) := by decide +kernel
theorem dX6_set_123 : decode cX6_set 123 = .ok (.aload_n 0, 1) := by decide +kernel
theorem dX6_set_124 : decode cX6_set 124 = .ok (.getfield 29, 3) := by decide +kernel
theorem dX6_set_127 : decode cX6_set 127 = .ok (.putfield 29, 3) := by decide +kernel
theorem dX6_set_130 : decode cX6_set 130 = .ok (.iload_n 3, 1) := by decide +kernel
theorem dX6_set_131 : decode cX6_set 131 = .ok (.ireturn, 1) := by decide +kernel
theorem dX6_is_0 : decode cX6_is 0 = .ok (.iload_n 1, 1) := by decide +kernel
theorem dX6_is_1 : decode cX6_is 1 = .ok (.tableswitch 96 0 8 #[51, 56, 61, 66, 71, 76, 81, 86, 91], 51) := by decide +kernel
theorem dX6_is_52 : decode cX6_is 52 = .ok (.aload_n 0, 1) := by decide +kernel
theorem dX6_is_53 : decode cX6_is 53 = .ok (.getfield 112, 3) := by decide +kernel
theorem dX6_is_56 : decode cX6_is 56 = .ok (.ireturn, 1) := by decide +kernel
theorem dX6_is_57 : decode cX6_is 57 = .ok (.aload_n 0, 1) := by decide +kernel
theorem dX6_is_58 : decode cX6_is 58 = .ok (.getfield 25, 3) := by decide +kernel
theorem dX6_is_61 : decode cX6_is 61 = .ok (.ireturn, 1) := by decide +kernel
theorem dX6_is_62 : decode cX6_is 62 = .ok (.aload_n 0, 1) := by decide +kernel
theorem dX6_is_63 : decode cX6_is 63 = .ok (.getfield 29, 3) := by decide +kernel
theorem dX6_is_66 : decode cX6_is 66 = .ok (.ireturn, 1) := by decide +kernel
theorem dX6_is_67 : decode cX6_is 67 = .ok (.aload_n 0, 1) := by decide +kernel
theorem dX6_is_68 : decode cX6_is 68 = .ok (.getfield 115, 3) := by decide +kernel
theorem dX6_is_71 : decode cX6_is 71 = .ok (.ireturn, 1) := by decide +kernel
theorem dX6_is_72 : decode cX6_is 72 = .ok (.aload_n 0, 1) := by decide +kernel
theorem dX6_is_73 : decode cX6_is 73 = .ok (.getfield 118, 3) := by decide +kernel
theorem dX6_is_76 : decode cX6_is 76 = .ok (.ireturn, 1) := by decide +kernel
theorem dX6_is_77 : decode cX6_is 77 = .ok (.aload_n 0, 1) := by decide +kernel
theorem dX6_is_78 : decode cX6_is 78 = .ok (.getfield 98, 3) := by decide +kernel
theorem dX6_is_81 : decode cX6_is 81 = .ok (.ireturn, 1) := by decide +kernel
theorem dX6_is_82 : decode cX6_is 82 = .ok (.aload_n 0, 1) := by decide +kernel
theorem dX6_is_83 : decode cX6_is 83 = .ok (.getfield 72, 3) := by decide +kernel
theorem dX6_is_86 : decode cX6_is 86 = .ok (.ireturn, 1) := by decide +kernel
theorem dX6_is_87 : decode cX6_is 87 = .ok (.aload_n 0, 1) := by decide +kernel
theorem dX6_is_88 : decode cX6_is 88 = .ok (.getfield 121, 3) := by decide +kernel
theorem dX6_is_91 : decode cX6_is 91 = .ok (.ireturn, 1) := by decide +kernel
theorem dX6_is_92 : decode cX6_is 92 = .ok (.aload_n 0, 1) := by decide +kernel
theorem dX6_is_93 : decode cX6_is 93 = .ok (.getfield 32, 3) := by decide +kernel
theorem dX6_is_96 : decode cX6_is 96 = .ok (.ireturn, 1) := by decide +kernel
theorem dX6_is_97 : decode cX6_is 97 = .ok (.ldc 97, 2) := by decide +kernel
theorem dX6_is_99 : decode cX6_is 99 = .ok (.ireturn, 1) := by decide +kernel
theorem dX6_type_0 : decode cX6_type 0 = .ok (.iload_n 3, 1) := by decide +kernel
theorem dX6_type_1 : decode cX6_type 1 = .ok (.i2l, 1) := by decide +kernel
theorem dX6_type_2 : decode cX6_type 2 = .ok (.lconst 1, 1) := by decide +kernel
theorem dX6_type_3 : decode cX6_type 3 = .ok (.ldc2_w 124, 3) := by decide +kernel
theorem dX6_type_6 : decode cX6_type 6 = .ok (.invokestatic 75, 3) := by decide +kernel
theorem dX6_type_9 : decode cX6_type 9 = .ok (.ifCond .ne 5, 3) := by decide +kernel
theorem dX6_type_12 : decode cX6_type 12 = .ok (.iconst (-1), 1) := by decide +kernel
theorem dX6_type_13 : decode cX6_type 13 = .ok (.ireturn, 1) := by decide +kernel
theorem dX6_type_14 : decode cX6_type 14 = .ok (.iload_n 3, 1) := by decide +kernel
theorem dX6_type_15 : decode cX6_type 15 = .ok (.iconst 1, 1) := by decide +kernel
theorem dX6_type_16 : decode cX6_type 16 = .ok (.isub, 1) := by decide +kernel
theorem dX6_type_17 : decode cX6_type 17 = .ok (.istore 4, 2) := by decide +kernel
theorem dX6_type_19 : decode cX6_type 19 = .ok (.iload 4, 2) := by decide +kernel
theorem dX6_type_21 : decode cX6_type 21 = .ok (.ifCond .lt 34, 3) := by decide +kernel
theorem dX6_type_24 : decode cX6_type 24 = .ok (.lload_n 1, 1) := by decide +kernel
theorem dX6_type_25 : decode cX6_type 25 = .ok (.bipush 8, 2) := by decide +kernel
theorem dX6_type_27 : decode cX6_type 27 = .ok (.iload 4, 2) := by decide +kernel
theorem dX6_type_29 : decode cX6_type 29 = .ok (.imul, 1) := by decide +kernel
theorem dX6_type_30 : decode cX6_type 30 = .ok (.lshr, 1) := by decide +kernel
theorem dX6_type_31 : decode cX6_type 31 = .ok (.ldc2_w 126, 3) := by decide +kernel
theorem dX6_type_34 : decode cX6_type 34 = .ok (.land, 1) := by decide +kernel
theorem dX6_type_35 : decode cX6_type 35 = .ok (.ldc2_w 128, 3) := by decide +kernel
theorem dX6_type_38 : decode cX6_type 38 = .ok (.ldc2_w 130, 3) := by decide +kernel
theorem dX6_type_41 : decode cX6_type 41 = .ok (.invokestatic 75, 3) := by decide +kernel
theorem dX6_type_44 : decode cX6_type 44 = .ok (.ifCond .ne 5, 3) := by decide +kernel
theorem dX6_type_47 : decode cX6_type 47 = .ok (.iconst (-1), 1) := by decide +kernel
theorem dX6_type_48 : decode cX6_type 48 = .ok (.ireturn, 1) := by decide +kernel
theorem dX6_type_49 : decode cX6_type 49 = .ok (.iinc 4 (-1), 3) := by decide +kernel
theorem dX6_type_52 : decode cX6_type 52 = .ok (.goto (-33), 3) := by decide +kernel
theorem dX6_type_55 : decode cX6_type 55 = .ok (.aload_n 0, 1) := by decide +kernel
theorem dX6_type_56 : decode cX6_type 56 = .ok (.getfield 132, 3) := by decide +kernel
theorem dX6_type_59 : decode cX6_type 59 = .ok (.iload_n 3, 1) := by decide +kernel
theorem dX6_type_60 : decode cX6_type 60 = .ok (.iadd, 1) := by decide +kernel
theorem dX6_type_61 : decode cX6_type 61 = .ok (.bipush 60, 2) := by decide +kernel
theorem dX6_type_63 : decode cX6_type 63 = .ok (.if_icmp .le 6, 3) := by decide +kernel
theorem dX6_type_66 : decode cX6_type 66 = .ok (.bipush (-3), 2) := by decide +kernel
theorem dX6_type_68 : decode cX6_type 68 = .ok (.ireturn, 1) := by decide +kernel
theorem dX6_type_69 : decode cX6_type 69 = .ok (.iload_n 3, 1) := by decide +kernel
theorem dX6_type_70 : decode cX6_type 70 = .ok (.iconst 1, 1) := by decide +kernel
theorem dX6_type_71 : decode cX6_type 71 = .ok (.isub, 1) := by decide +kernel
theorem dX6_type_72 : decode cX6_type 72 = .ok (.istore 4, 2) := by decide +kernel
theorem dX6_type_74 : decode cX6_type 74 = .ok (.iload 4, 2) := by decide +kernel
theorem dX6_type_76 : decode cX6_type 76 = .ok (.ifCond .lt 40, 3) := by decide +kernel
theorem dX6_type_79 : decode cX6_type 79 = .ok (.aload_n 0, 1) := by decide +kernel
theorem dX6_type_80 : decode cX6_type 80 = .ok (.getfield 41, 3) := by decide +kernel
theorem dX6_type_83 : decode cX6_type 83 = .ok (.aload_n 0, 1) := by decide +kernel
theorem dX6_type_84 : decode cX6_type 84 = .ok (.getfield 132, 3) := by decide +kernel
theorem dX6_type_87 : decode cX6_type 87 = .ok (.lload_n 1, 1) := by decide +kernel
theorem dX6_type_88 : decode cX6_type 88 = .ok (.bipush 8, 2) := by decide +kernel
theorem dX6_type_90 : decode cX6_type 90 = .ok (.iload 4, 2) := by decide +kernel
theorem dX6_type_92 : decode cX6_type 92 = .ok (.imul, 1) := by decide +kernel
theorem dX6_type_93 : decode cX6_type 93 = .ok (.lshr, 1) := by decide +kernel
theorem dX6_type_94 : decode cX6_type 94 = .ok (.ldc2_w 126, 3) := by decide +kernel
theorem dX6_type_97 : decode cX6_type 97 = .ok (.land, 1) := by decide +kernel
theorem dX6_type_98 : decode cX6_type 98 = .ok (.l2i, 1) := by decide +kernel
theorem dX6_type_99 : decode cX6_type 99 = .ok (.iastore, 1) := by decide +kernel
theorem dX6_type_100 : decode cX6_type 100 = .ok (.aload_n 0, 1) := by decide +kernel
theorem dX6_type_101 : decode cX6_type 101 = .ok (.dup, 1) := by decide +kernel
theorem dX6_type_102 : decode cX6_type 102 = .ok (.getfield 132, 3) := by decide +kernel
theorem dX6_type_105 : decode cX6_type 105 = .ok (.iconst 1, 1) := by decide +kernel
theorem dX6_type_106 : decode cX6_type 106 = .ok (.iadd, 1) := by decide +kernel
theorem dX6_type_107 : decode cX6_type 107 = .ok (.putfield 132, 3) := by decide +kernel
theorem dX6_type_110 : decode cX6_type 110 = .ok (.iinc 4 (-1), 3) := by decide +kernel
theorem dX6_type_113 : decode cX6_type 113 = .ok (.goto (-39), 3) := by decide +kernel
theorem dX6_type_116 : decode cX6_type 116 = .ok (.aload_n 0, 1) := by decide +kernel
theorem dX6_type_117 : decode cX6_type 117 = .ok (.getfield 132, 3) := by decide +kernel
theorem dX6_type_120 : decode cX6_type 120 = .ok (.ireturn, 1) := by decide +kernel
theorem dX6_nextByte_0 : decode cX6_nextByte 0 = .ok (.aload_n 0, 1) := by decide +kernel
theorem dX6_nextByte_1 : decode cX6_nextByte 1 = .ok (.getfield 135, 3) := by decide +kernel
theorem dX6_nextByte_4 : decode cX6_nextByte 4 = .ok (.aload_n 0, 1) := by decide +kernel
theorem dX6_nextByte_5 : decode cX6_nextByte 5 = .ok (.getfield 132, 3) := by decide +kernel
theorem dX6_nextByte_8 : decode cX6_nextByte 8 = .ok (.if_icmp .ge 30, 3) := by decide +kernel
theorem dX6_nextByte_11 : decode cX6_nextByte 11 = .ok (.aload_n 0, 1) := by decide +kernel
theorem dX6_nextByte_12 : decode cX6_nextByte 12 = .ok (.getfield 41, 3) := by decide +kernel
theorem dX6_nextByte_15 : decode cX6_nextByte 15 = .ok (.aload_n 0, 1) := by decide +kernel
theorem dX6_nextByte_16 : decode cX6_nextByte 16 = .ok (.getfield 135, 3) := by decide +kernel
theorem dX6_nextByte_19 : decode cX6_nextByte 19 = .ok (.iaload, 1) := by decide +kernel
theorem dX6_nextByte_20 : decode cX6_nextByte 20 = .ok (.bipush 32, 2) := by decide +kernel
theorem dX6_nextByte_22 : decode cX6_nextByte 22 = .ok (.if_icmp .ne 16, 3) := by decide +kernel
theorem dX6_nextByte_25 : decode cX6_nextByte 25 = .ok (.aload_n 0, 1) := by decide +kernel
theorem dX6_nextByte_26 : decode cX6_nextByte 26 = .ok (.dup, 1) := by decide +kernel
theorem dX6_nextByte_27 : decode cX6_nextByte 27 = .ok (.getfield 135, 3) := by decide +kernel
theorem dX6_nextByte_30 : decode cX6_nextByte 30 = .ok (.iconst 1, 1) := by decide +kernel
theorem dX6_nextByte_31 : decode cX6_nextByte 31 = .ok (.iadd, 1) := by decide +kernel
theorem dX6_nextByte_32 : decode cX6_nextByte 32 = .ok (.putfield 135, 3) := by decide +kernel
theorem dX6_nextByte_35 : decode cX6_nextByte 35 = .ok (.goto (-35), 3) := by decide +kernel
theorem dX6_nextByte_38 : decode cX6_nextByte 38 = .ok (.aload_n 0, 1) := by decide +kernel
theorem dX6_nextByte_39 : decode cX6_nextByte 39 = .ok (.getfield 135, 3) := by decide +kernel
theorem dX6_nextByte_42 : decode cX6_nextByte 42 = .ok (.aload_n 0, 1) := by decide +kernel
theorem dX6_nextByte_43 : decode cX6_nextByte 43 = .ok (.getfield 132, 3) := by decide +kernel
theorem dX6_nextByte_46 : decode cX6_nextByte 46 = .ok (.if_icmp .ge 15, 3) := by decide +kernel
theorem dX6_nextByte_49 : decode cX6_nextByte 49 = .ok (.aload_n 0, 1) := by decide +kernel
theorem dX6_nextByte_50 : decode cX6_nextByte 50 = .ok (.getfield 41, 3) := by decide +kernel
theorem dX6_nextByte_53 : decode cX6_nextByte 53 = .ok (.aload_n 0, 1) := by decide +kernel
theorem dX6_nextByte_54 : decode cX6_nextByte 54 = .ok (.getfield 135, 3) := by decide +kernel
theorem dX6_nextByte_57 : decode cX6_nextByte 57 = .ok (.iaload, 1) := by decide +kernel
theorem dX6_nextByte_58 : decode cX6_nextByte 58 = .ok (.goto 4, 3) := by decide +kernel
theorem dX6_nextByte_61 : decode cX6_nextByte 61 = .ok (.iconst (-1), 1) := by decide +kernel
theorem dX6_nextByte_62 : decode cX6_nextByte 62 = .ok (.ireturn, 1) := by decide +kernel
theorem dX6_readDigit_0 : decode cX6_readDigit 0 = .ok (.aload_n 0, 1) := by decide +kernel
theorem dX6_readDigit_1 : decode cX6_readDigit 1 = .ok (.invokevirtual 138, 3) := by decide +kernel
theorem dX6_readDigit_4 : decode cX6_readDigit 4 = .ok (.bipush 48, 2) := by decide +kernel
theorem dX6_readDigit_6 : decode cX6_readDigit 6 = .ok (.isub, 1) := by decide +kernel
theorem dX6_readDigit_7 : decode cX6_readDigit 7 = .ok (.istore_n 3, 1) := by decide +kernel
theorem dX6_readDigit_8 : decode cX6_readDigit 8 = .ok (.iload_n 3, 1) := by decide +kernel
theorem dX6_readDigit_9 : decode cX6_readDigit 9 = .ok (.i2l, 1) := by decide +kernel
theorem dX6_readDigit_10 : decode cX6_readDigit 10 = .ok (.iload_n 1, 1) := by decide +kernel
theorem dX6_readDigit_11 : decode cX6_readDigit 11 = .ok (.i2l, 1) := by decide +kernel
theorem dX6_readDigit_12 : decode cX6_readDigit 12 = .ok (.iload_n 2, 1) := by decide +kernel
theorem dX6_readDigit_13 : decode cX6_readDigit 13 = .ok (.i2l, 1) := by decide +kernel
theorem dX6_readDigit_14 : decode cX6_readDigit 14 = .ok (.invokestatic 75, 3) := by decide +kernel
theorem dX6_readDigit_17 : decode cX6_readDigit 17 = .ok (.ifCond .ne 5, 3) := by decide +kernel
theorem dX6_readDigit_20 : decode cX6_readDigit 20 = .ok (.iconst (-1), 1) := by decide +kernel
theorem dX6_readDigit_21 : decode cX6_readDigit 21 = .ok (.ireturn, 1) := by decide +kernel
theorem dX6_readDigit_22 : decode cX6_readDigit 22 = .ok (.aload_n 0, 1) := by decide +kernel
theorem dX6_readDigit_23 : decode cX6_readDigit 23 = .ok (.dup, 1) := by decide +kernel
theorem dX6_readDigit_24 : decode cX6_readDigit 24 = .ok (.getfield 135, 3) := by decide +kernel
theorem dX6_readDigit_27 : decode cX6_readDigit 27 = .ok (.iconst 1, 1) := by decide +kernel
theorem dX6_readDigit_28 : decode cX6_readDigit 28 = .ok (.iadd, 1) := by decide +kernel
theorem dX6_readDigit_29 : decode cX6_readDigit 29 = .ok (.putfield 135, 3) := by decide +kernel
theorem dX6_readDigit_32 : decode cX6_readDigit 32 = .ok (.iload_n 3, 1) := by decide +kernel
theorem dX6_readDigit_33 : decode cX6_readDigit 33 = .ok (.ireturn, 1) := by decide +kernel
theorem dX6_readOne_0 : decode cX6_readOne 0 = .ok (.aload_n 0, 1) := by decide +kernel
theorem dX6_readOne_1 : decode cX6_readOne 1 = .ok (.invokevirtual 138, 3) := by decide +kernel
theorem dX6_readOne_4 : decode cX6_readOne 4 = .ok (.istore_n 2, 1) := by decide +kernel
theorem dX6_readOne_5 : decode cX6_readOne 5 = .ok (.aload_n 0, 1) := by decide +kernel
theorem dX6_readOne_6 : decode cX6_readOne 6 = .ok (.getfield 44, 3) := by decide +kernel
theorem dX6_readOne_9 : decode cX6_readOne 9 = .ok (.iload_n 1, 1) := by decide +kernel
theorem dX6_readOne_10 : decode cX6_readOne 10 = .ok (.iload_n 2, 1) := by decide +kernel
theorem dX6_readOne_11 : decode cX6_readOne 11 = .ok (.bipush 112, 2) := by decide +kernel
theorem dX6_readOne_13 : decode cX6_readOne 13 = .ok (.if_icmp .ne 7, 3) := by decide +kernel
theorem dX6_readOne_16 : decode cX6_readOne 16 = .ok (.iconst 0, 1) := by decide +kernel
theorem dX6_readOne_17 : decode cX6_readOne 17 = .ok (.goto 34, 3) := by decide +kernel
theorem dX6_readOne_20 : decode cX6_readOne 20 = .ok (.iload_n 2, 1) := by decide +kernel
theorem dX6_readOne_21 : decode cX6_readOne 21 = .ok (.bipush 115, 2) := by decide +kernel
theorem dX6_readOne_23 : decode cX6_readOne 23 = .ok (.if_icmp .ne 7, 3) := by decide +kernel
theorem dX6_readOne_26 : decode cX6_readOne 26 = .ok (.iconst 1, 1) := by decide +kernel
theorem dX6_readOne_27 : decode cX6_readOne 27 = .ok (.goto 24, 3) := by decide +kernel
theorem dX6_readOne_30 : decode cX6_readOne 30 = .ok (.iload_n 2, 1) := by decide +kernel
theorem dX6_readOne_31 : decode cX6_readOne 31 = .ok (.bipush 118, 2) := by decide +kernel
theorem dX6_readOne_33 : decode cX6_readOne 33 = .ok (.if_icmp .ne 7, 3) := by decide +kernel
theorem dX6_readOne_36 : decode cX6_readOne 36 = .ok (.iconst 2, 1) := by decide +kernel
theorem dX6_readOne_37 : decode cX6_readOne 37 = .ok (.goto 14, 3) := by decide +kernel
theorem dX6_readOne_40 : decode cX6_readOne 40 = .ok (.iload_n 2, 1) := by decide +kernel
theorem dX6_readOne_41 : decode cX6_readOne 41 = .ok (.bipush 109, 2) := by decide +kernel
theorem dX6_readOne_43 : decode cX6_readOne 43 = .ok (.if_icmp .ne 7, 3) := by decide +kernel
theorem dX6_readOne_46 : decode cX6_readOne 46 = .ok (.iconst 3, 1) := by decide +kernel
theorem dX6_readOne_47 : decode cX6_readOne 47 = .ok (.goto 4, 3) := by decide +kernel
theorem dX6_readOne_50 : decode cX6_readOne 50 = .ok (.iconst (-1), 1) := by decide +kernel
theorem dX6_readOne_51 : decode cX6_readOne 51 = .ok (.iastore, 1) := by decide +kernel
theorem dX6_readOne_52 : decode cX6_readOne 52 = .ok (.aload_n 0, 1) := by decide +kernel
theorem dX6_readOne_53 : decode cX6_readOne 53 = .ok (.getfield 44, 3) := by decide +kernel
theorem dX6_readOne_56 : decode cX6_readOne 56 = .ok (.iload_n 1, 1) := by decide +kernel
theorem dX6_readOne_57 : decode cX6_readOne 57 = .ok (.iaload, 1) := by decide +kernel
theorem dX6_readOne_58 : decode cX6_readOne 58 = .ok (.ifCond .ge 5, 3) := by decide +kernel
theorem dX6_readOne_61 : decode cX6_readOne 61 = .ok (.iconst 0, 1) := by decide +kernel
theorem dX6_readOne_62 : decode cX6_readOne 62 = .ok (.ireturn, 1) := by decide +kernel
theorem dX6_readOne_63 : decode cX6_readOne 63 = .ok (.aload_n 0, 1) := by decide +kernel
theorem dX6_readOne_64 : decode cX6_readOne 64 = .ok (.dup, 1) := by decide +kernel
theorem dX6_readOne_65 : decode cX6_readOne 65 = .ok (.getfield 135, 3) := by decide +kernel
theorem dX6_readOne_68 : decode cX6_readOne 68 = .ok (.iconst 1, 1) := by decide +kernel
theorem dX6_readOne_69 : decode cX6_readOne 69 = .ok (.iadd, 1) := by decide +kernel
theorem dX6_readOne_70 : decode cX6_readOne 70 = .ok (.putfield 135, 3) := by decide +kernel
theorem dX6_readOne_73 : decode cX6_readOne 73 = .ok (.aload_n 0, 1) := by decide +kernel
theorem dX6_readOne_74 : decode cX6_readOne 74 = .ok (.getfield 44, 3) := by decide +kernel
theorem dX6_readOne_77 : decode cX6_readOne 77 = .ok (.iload_n 1, 1) := by decide +kernel
theorem dX6_readOne_78 : decode cX6_readOne 78 = .ok (.iconst 1, 1) := by decide +kernel
theorem dX6_readOne_79 : decode cX6_readOne 79 = .ok (.iadd, 1) := by decide +kernel
theorem dX6_readOne_80 : decode cX6_readOne 80 = .ok (.iconst 0, 1) := by decide +kernel
theorem dX6_readOne_81 : decode cX6_readOne 81 = .ok (.iastore, 1) := by decide +kernel
theorem dX6_readOne_82 : decode cX6_readOne 82 = .ok (.aload_n 0, 1) := by decide +kernel
theorem dX6_readOne_83 : decode cX6_readOne 83 = .ok (.invokevirtual 138, 3) := by decide +kernel
theorem dX6_readOne_86 : decode cX6_readOne 86 = .ok (.istore_n 3, 1) := by decide +kernel
theorem dX6_readOne_87 : decode cX6_readOne 87 = .ok (.iload_n 3, 1) := by decide +kernel
theorem dX6_readOne_88 : decode cX6_readOne 88 = .ok (.bipush 43, 2) := by decide +kernel
theorem dX6_readOne_90 : decode cX6_readOne 90 = .ok (.if_icmp .eq 9, 3) := by decide +kernel
theorem dX6_readOne_93 : decode cX6_readOne 93 = .ok (.iload_n 3, 1) := by decide +kernel
theorem dX6_readOne_94 : decode cX6_readOne 94 = .ok (.bipush 45, 2) := by decide +kernel
theorem dX6_readOne_96 : decode cX6_readOne 96 = .ok (.if_icmp .ne 50, 3) := by decide +kernel
theorem dX6_readOne_99 : decode cX6_readOne 99 = .ok (.aload_n 0, 1) := by decide +kernel
theorem dX6_readOne_100 : decode cX6_readOne 100 = .ok (.dup, 1) := by decide +kernel
theorem dX6_readOne_101 : decode cX6_readOne 101 = .ok (.getfield 135, 3) := by decide +kernel
theorem dX6_readOne_104 : decode cX6_readOne 104 = .ok (.iconst 1, 1) := by decide +kernel
theorem dX6_readOne_105 : decode cX6_readOne 105 = .ok (.iadd, 1) := by decide +kernel
theorem dX6_readOne_106 : decode cX6_readOne 106 = .ok (.putfield 135, 3) := by decide +kernel
theorem dX6_readOne_109 : decode cX6_readOne 109 = .ok (.aload_n 0, 1) := by decide +kernel
theorem dX6_readOne_110 : decode cX6_readOne 110 = .ok (.iconst 0, 1) := by decide +kernel
theorem dX6_readOne_111 : decode cX6_readOne 111 = .ok (.iconst 3, 1) := by decide +kernel
theorem dX6_readOne_112 : decode cX6_readOne 112 = .ok (.invokevirtual 142, 3) := by decide +kernel
theorem dX6_readOne_115 : decode cX6_readOne 115 = .ok (.istore 4, 2) := by decide +kernel
theorem dX6_readOne_117 : decode cX6_readOne 117 = .ok (.iload 4, 2) := by decide +kernel
theorem dX6_readOne_119 : decode cX6_readOne 119 = .ok (.ifCond .ge 5, 3) := by decide +kernel
theorem dX6_readOne_122 : decode cX6_readOne 122 = .ok (.iconst 0, 1) := by decide +kernel
theorem dX6_readOne_123 : decode cX6_readOne 123 = .ok (.ireturn, 1) := by decide +kernel
theorem dX6_readOne_124 : decode cX6_readOne 124 = .ok (.aload_n 0, 1) := by decide +kernel
theorem dX6_readOne_125 : decode cX6_readOne 125 = .ok (.getfield 44, 3) := by decide +kernel
theorem dX6_readOne_128 : decode cX6_readOne 128 = .ok (.iload_n 1, 1) := by decide +kernel
theorem dX6_readOne_129 : decode cX6_readOne 129 = .ok (.iconst 1, 1) := by decide +kernel
theorem dX6_readOne_130 : decode cX6_readOne 130 = .ok (.iadd, 1) := by decide +kernel
theorem dX6_readOne_131 : decode cX6_readOne 131 = .ok (.iload_n 3, 1) := by decide +kernel
theorem dX6_readOne_132 : decode cX6_readOne 132 = .ok (.bipush 43, 2) := by decide +kernel
theorem dX6_readOne_134 : decode cX6_readOne 134 = .ok (.if_icmp .ne 8, 3) := by decide +kernel
theorem dX6_readOne_137 : decode cX6_readOne 137 = .ok (.iload 4, 2) := by decide +kernel
theorem dX6_readOne_139 : decode cX6_readOne 139 = .ok (.goto 6, 3) := by decide +kernel
theorem dX6_readOne_142 : decode cX6_readOne 142 = .ok (.iload 4, 2) := by decide +kernel
theorem dX6_readOne_144 : decode cX6_readOne 144 = .ok (.ineg, 1) := by decide +kernel
theorem dX6_readOne_145 : decode cX6_readOne 145 = .ok (.iastore, 1) := by decide +kernel
theorem dX6_readOne_146 : decode cX6_readOne 146 = .ok (.aload_n 0, 1) := by decide +kernel
theorem dX6_readOne_147 : decode cX6_readOne 147 = .ok (.getfield 44, 3) := by decide +kernel
theorem dX6_readOne_150 : decode cX6_readOne 150 = .ok (.iload_n 1, 1) := by decide +kernel
theorem dX6_readOne_151 : decode cX6_readOne 151 = .ok (.iconst 2, 1) := by decide +kernel
theorem dX6_readOne_152 : decode cX6_readOne 152 = .ok (.iadd, 1) := by decide +kernel
theorem dX6_readOne_153 : decode cX6_readOne 153 = .ok (.iconst 1, 1) := by decide +kernel
theorem dX6_readOne_154 : decode cX6_readOne 154 = .ok (.iastore, 1) := by decide +kernel
theorem dX6_readOne_155 : decode cX6_readOne 155 = .ok (.aload_n 0, 1) := by decide +kernel
theorem dX6_readOne_156 : decode cX6_readOne 156 = .ok (.invokevirtual 138, 3) := by decide +kernel
theorem dX6_readOne_159 : decode cX6_readOne 159 = .ok (.bipush 114, 2) := by decide +kernel
theorem dX6_readOne_161 : decode cX6_readOne 161 = .ok (.if_icmp .ne 28, 3) := by decide +kernel
theorem dX6_readOne_164 : decode cX6_readOne 164 = .ok (.aload_n 0, 1) := by decide +kernel
theorem dX6_readOne_165 : decode cX6_readOne 165 = .ok (.dup, 1) := by decide +kernel
theorem dX6_readOne_166 : decode cX6_readOne 166 = .ok (.getfield 135, 3) := by decide +kernel
theorem dX6_readOne_169 : decode cX6_readOne 169 = .ok (.iconst 1, 1) := by decide +kernel
theorem dX6_readOne_170 : decode cX6_readOne 170 = .ok (.iadd, 1) := by decide +kernel
theorem dX6_readOne_171 : decode cX6_readOne 171 = .ok (.putfield 135, 3) := by decide +kernel
theorem dX6_readOne_174 : decode cX6_readOne 174 = .ok (.aload_n 0, 1) := by decide +kernel
theorem dX6_readOne_175 : decode cX6_readOne 175 = .ok (.getfield 44, 3) := by decide +kernel
theorem dX6_readOne_178 : decode cX6_readOne 178 = .ok (.iload_n 1, 1) := by decide +kernel
theorem dX6_readOne_179 : decode cX6_readOne 179 = .ok (.iconst 2, 1) := by decide +kernel
theorem dX6_readOne_180 : decode cX6_readOne 180 = .ok (.iadd, 1) := by decide +kernel
theorem dX6_readOne_181 : decode cX6_readOne 181 = .ok (.aload_n 0, 1) := by decide +kernel
theorem dX6_readOne_182 : decode cX6_readOne 182 = .ok (.iconst 1, 1) := by decide +kernel
theorem dX6_readOne_183 : decode cX6_readOne 183 = .ok (.bipush 9, 2) := by decide +kernel
theorem dX6_readOne_185 : decode cX6_readOne 185 = .ok (.invokevirtual 142, 3) := by decide +kernel
theorem dX6_readOne_188 : decode cX6_readOne 188 = .ok (.iastore, 1) := by decide +kernel
theorem dX6_readOne_189 : decode cX6_readOne 189 = .ok (.aload_n 0, 1) := by decide +kernel
theorem dX6_readOne_190 : decode cX6_readOne 190 = .ok (.getfield 44, 3) := by decide +kernel
theorem dX6_readOne_193 : decode cX6_readOne 193 = .ok (.iload_n 1, 1) := by decide +kernel
theorem dX6_readOne_194 : decode cX6_readOne 194 = .ok (.iconst 2, 1) := by decide +kernel
theorem dX6_readOne_195 : decode cX6_readOne 195 = .ok (.iadd, 1) := by decide +kernel
theorem dX6_readOne_196 : decode cX6_readOne 196 = .ok (.iaload, 1) := by decide +kernel
theorem dX6_readOne_197 : decode cX6_readOne 197 = .ok (.ifCond .le 7, 3) := by decide +kernel
theorem dX6_readOne_200 : decode cX6_readOne 200 = .ok (.iconst 1, 1) := by decide +kernel
theorem dX6_readOne_201 : decode cX6_readOne 201 = .ok (.goto 4, 3) := by decide +kernel
theorem dX6_readOne_204 : decode cX6_readOne 204 = .ok (.iconst 0, 1) := by decide +kernel
theorem dX6_readOne_205 : decode cX6_readOne 205 = .ok (.ireturn, 1) := by decide +kernel
theorem dX6_readVillage_0 : decode cX6_readVillage 0 = .ok (.aload_n 0, 1) := by decide +kernel
theorem dX6_readVillage_1 : decode cX6_readVillage 1 = .ok (.iconst 0, 1) := by decide +kernel
theorem dX6_readVillage_2 : decode cX6_readVillage 2 = .ok (.putfield 135, 3) := by decide +kernel
theorem dX6_readVillage_5 : decode cX6_readVillage 5 = .ok (.iconst 0, 1) := by decide +kernel
theorem dX6_readVillage_6 : decode cX6_readVillage 6 = .ok (.istore_n 1, 1) := by decide +kernel
theorem dX6_readVillage_7 : decode cX6_readVillage 7 = .ok (.iload_n 1, 1) := by decide +kernel
theorem dX6_readVillage_8 : decode cX6_readVillage 8 = .ok (.bipush 6, 2) := by decide +kernel
theorem dX6_readVillage_10 : decode cX6_readVillage 10 = .ok (.if_icmp .ge 62, 3) := by decide +kernel
theorem dX6_readVillage_13 : decode cX6_readVillage 13 = .ok (.aload_n 0, 1) := by decide +kernel
theorem dX6_readVillage_14 : decode cX6_readVillage 14 = .ok (.iconst 3, 1) := by decide +kernel
theorem dX6_readVillage_15 : decode cX6_readVillage 15 = .ok (.iload_n 1, 1) := by decide +kernel
theorem dX6_readVillage_16 : decode cX6_readVillage 16 = .ok (.imul, 1) := by decide +kernel
theorem dX6_readVillage_17 : decode cX6_readVillage 17 = .ok (.invokevirtual 146, 3) := by decide +kernel
theorem dX6_readVillage_20 : decode cX6_readVillage 20 = .ok (.ifCond .ne 5, 3) := by decide +kernel
theorem dX6_readVillage_23 : decode cX6_readVillage 23 = .ok (.iconst 0, 1) := by decide +kernel
theorem dX6_readVillage_24 : decode cX6_readVillage 24 = .ok (.ireturn, 1) := by decide +kernel
theorem dX6_readVillage_25 : decode cX6_readVillage 25 = .ok (.aload_n 0, 1) := by decide +kernel
theorem dX6_readVillage_26 : decode cX6_readVillage 26 = .ok (.iload_n 1, 1) := by decide +kernel
theorem dX6_readVillage_27 : decode cX6_readVillage 27 = .ok (.iconst 1, 1) := by decide +kernel
theorem dX6_readVillage_28 : decode cX6_readVillage 28 = .ok (.iadd, 1) := by decide +kernel
theorem dX6_readVillage_29 : decode cX6_readVillage 29 = .ok (.putfield 149, 3) := by decide +kernel
theorem dX6_readVillage_32 : decode cX6_readVillage 32 = .ok (.aload_n 0, 1) := by decide +kernel
theorem dX6_readVillage_33 : decode cX6_readVillage 33 = .ok (.invokevirtual 138, 3) := by decide +kernel
theorem dX6_readVillage_36 : decode cX6_readVillage 36 = .ok (.istore_n 2, 1) := by decide +kernel
theorem dX6_readVillage_37 : decode cX6_readVillage 37 = .ok (.iload_n 2, 1) := by decide +kernel
theorem dX6_readVillage_38 : decode cX6_readVillage 38 = .ok (.ifCond .ge 5, 3) := by decide +kernel
theorem dX6_readVillage_41 : decode cX6_readVillage 41 = .ok (.iconst 1, 1) := by decide +kernel
theorem dX6_readVillage_42 : decode cX6_readVillage 42 = .ok (.ireturn, 1) := by decide +kernel
theorem dX6_readVillage_43 : decode cX6_readVillage 43 = .ok (.iload_n 2, 1) := by decide +kernel
theorem dX6_readVillage_44 : decode cX6_readVillage 44 = .ok (.bipush 44, 2) := by decide +kernel
theorem dX6_readVillage_46 : decode cX6_readVillage 46 = .ok (.if_icmp .ne 8, 3) := by decide +kernel
theorem dX6_readVillage_49 : decode cX6_readVillage 49 = .ok (.iload_n 1, 1) := by decide +kernel
theorem dX6_readVillage_50 : decode cX6_readVillage 50 = .ok (.iconst 5, 1) := by decide +kernel
theorem dX6_readVillage_51 : decode cX6_readVillage 51 = .ok (.if_icmp .ne 5, 3) := by decide +kernel
theorem dX6_readVillage_54 : decode cX6_readVillage 54 = .ok (.iconst 0, 1) := by decide +kernel
theorem dX6_readVillage_55 : decode cX6_readVillage 55 = .ok (.ireturn, 1) := by decide +kernel
theorem dX6_readVillage_56 : decode cX6_readVillage 56 = .ok (.aload_n 0, 1) := by decide +kernel
theorem dX6_readVillage_57 : decode cX6_readVillage 57 = .ok (.dup, 1) := by decide +kernel
theorem dX6_readVillage_58 : decode cX6_readVillage 58 = .ok (.getfield 135, 3) := by decide +kernel
theorem dX6_readVillage_61 : decode cX6_readVillage 61 = .ok (.iconst 1, 1) := by decide +kernel
theorem dX6_readVillage_62 : decode cX6_readVillage 62 = .ok (.iadd, 1) := by decide +kernel
theorem dX6_readVillage_63 : decode cX6_readVillage 63 = .ok (.putfield 135, 3) := by decide +kernel
theorem dX6_readVillage_66 : decode cX6_readVillage 66 = .ok (.iinc 1 1, 3) := by decide +kernel
theorem dX6_readVillage_69 : decode cX6_readVillage 69 = .ok (.goto (-62), 3) := by decide +kernel
theorem dX6_readVillage_72 : decode cX6_readVillage 72 = .ok (.iconst 0, 1) := by decide +kernel
theorem dX6_readVillage_73 : decode cX6_readVillage 73 = .ok (.ireturn, 1) := by decide +kernel
theorem dX6_village_0 : decode cX6_village 0 = .ok (.aload_n 0, 1) := by decide +kernel
theorem dX6_village_1 : decode cX6_village 1 = .ok (.invokevirtual 152, 3) := by decide +kernel
theorem dX6_village_4 : decode cX6_village 4 = .ok (.istore_n 1, 1) := by decide +kernel
theorem dX6_village_5 : decode cX6_village 5 = .ok (.iload_n 1, 1) := by decide +kernel
theorem dX6_village_6 : decode cX6_village 6 = .ok (.ifCond .ne 8, 3) := by decide +kernel
theorem dX6_village_9 : decode cX6_village 9 = .ok (.aload_n 0, 1) := by decide +kernel
theorem dX6_village_10 : decode cX6_village 10 = .ok (.invokevirtual 138, 3) := by decide +kernel
theorem dX6_village_13 : decode cX6_village 13 = .ok (.pop, 1) := by decide +kernel
theorem dX6_village_14 : decode cX6_village 14 = .ok (.aload_n 0, 1) := by decide +kernel
theorem dX6_village_15 : decode cX6_village 15 = .ok (.iconst 0, 1) := by decide +kernel
theorem dX6_village_16 : decode cX6_village 16 = .ok (.putfield 132, 3) := by decide +kernel
theorem dX6_village_19 : decode cX6_village 19 = .ok (.iload_n 1, 1) := by decide +kernel
theorem dX6_village_20 : decode cX6_village 20 = .ok (.ifCond .ne 11, 3) := by decide +kernel
theorem dX6_village_23 : decode cX6_village 23 = .ok (.bipush (-20), 2) := by decide +kernel
theorem dX6_village_25 : decode cX6_village 25 = .ok (.aload_n 0, 1) := by decide +kernel
theorem dX6_village_26 : decode cX6_village 26 = .ok (.getfield 135, 3) := by decide +kernel
theorem dX6_village_29 : decode cX6_village 29 = .ok (.isub, 1) := by decide +kernel
theorem dX6_village_30 : decode cX6_village 30 = .ok (.ireturn, 1) := by decide +kernel
theorem dX6_village_31 : decode cX6_village 31 = .ok (.aload_n 0, 1) := by decide +kernel
theorem dX6_village_32 : decode cX6_village 32 = .ok (.iconst 0, 1) := by decide +kernel
theorem dX6_village_33 : decode cX6_village 33 = .ok (.putfield 72, 3) := by decide +kernel
theorem dX6_village_36 : decode cX6_village 36 = .ok (.aload_n 0, 1) := by decide +kernel
theorem dX6_village_37 : decode cX6_village 37 = .ok (.iconst 0, 1) := by decide +kernel
theorem dX6_village_38 : decode cX6_village 38 = .ok (.putfield 121, 3) := by decide +kernel
theorem dX6_village_41 : decode cX6_village 41 = .ok (.aload_n 0, 1) := by decide +kernel
theorem dX6_village_42 : decode cX6_village 42 = .ok (.bipush 9, 2) := by decide +kernel
theorem dX6_village_44 : decode cX6_village 44 = .ok (.putfield 32, 3) := by decide +kernel
theorem dX6_village_47 : decode cX6_village 47 = .ok (.iconst 0, 1) := by decide +kernel
theorem dX6_village_48 : decode cX6_village 48 = .ok (.istore_n 2, 1) := by decide +kernel
theorem dX6_village_49 : decode cX6_village 49 = .ok (.iload_n 2, 1) := by decide +kernel
theorem dX6_village_50 : decode cX6_village 50 = .ok (.aload_n 0, 1) := by decide +kernel
theorem dX6_village_51 : decode cX6_village 51 = .ok (.getfield 149, 3) := by decide +kernel
theorem dX6_village_54 : decode cX6_village 54 = .ok (.if_icmp .ge 41, 3) := by decide +kernel
theorem dX6_village_57 : decode cX6_village 57 = .ok (.aload_n 0, 1) := by decide +kernel
theorem dX6_village_58 : decode cX6_village 58 = .ok (.aload_n 0, 1) := by decide +kernel
theorem dX6_village_59 : decode cX6_village 59 = .ok (.getfield 44, 3) := by decide +kernel
theorem dX6_village_62 : decode cX6_village 62 = .ok (.iconst 3, 1) := by decide +kernel
theorem dX6_village_63 : decode cX6_village 63 = .ok (.iload_n 2, 1) := by decide +kernel
theorem dX6_village_64 : decode cX6_village 64 = .ok (.imul, 1) := by decide +kernel
theorem dX6_village_65 : decode cX6_village 65 = .ok (.iaload, 1) := by decide +kernel
theorem dX6_village_66 : decode cX6_village 66 = .ok (.aload_n 0, 1) := by decide +kernel
theorem dX6_village_67 : decode cX6_village 67 = .ok (.getfield 44, 3) := by decide +kernel
theorem dX6_village_70 : decode cX6_village 70 = .ok (.iconst 3, 1) := by decide +kernel
theorem dX6_village_71 : decode cX6_village 71 = .ok (.iload_n 2, 1) := by decide +kernel
theorem dX6_village_72 : decode cX6_village 72 = .ok (.imul, 1) := by decide +kernel
theorem dX6_village_73 : decode cX6_village 73 = .ok (.iconst 1, 1) := by decide +kernel
theorem dX6_village_74 : decode cX6_village 74 = .ok (.iadd, 1) := by decide +kernel
theorem dX6_village_75 : decode cX6_village 75 = .ok (.iaload, 1) := by decide +kernel
theorem dX6_village_76 : decode cX6_village 76 = .ok (.aload_n 0, 1) := by decide +kernel
theorem dX6_village_77 : decode cX6_village 77 = .ok (.getfield 44, 3) := by decide +kernel
theorem dX6_village_80 : decode cX6_village 80 = .ok (.iconst 3, 1) := by decide +kernel
theorem dX6_village_81 : decode cX6_village 81 = .ok (.iload_n 2, 1) := by decide +kernel
theorem dX6_village_82 : decode cX6_village 82 = .ok (.imul, 1) := by decide +kernel
theorem dX6_village_83 : decode cX6_village 83 = .ok (.iconst 2, 1) := by decide +kernel
theorem dX6_village_84 : decode cX6_village 84 = .ok (.iadd, 1) := by decide +kernel
theorem dX6_village_85 : decode cX6_village 85 = .ok (.iaload, 1) := by decide +kernel
theorem dX6_village_86 : decode cX6_village 86 = .ok (.invokevirtual 87, 3) := by decide +kernel
theorem dX6_village_89 : decode cX6_village 89 = .ok (.iinc 2 1, 3) := by decide +kernel
theorem dX6_village_92 : decode cX6_village 92 = .ok (.goto (-43), 3) := by decide +kernel
theorem dX6_village_95 : decode cX6_village 95 = .ok (.aload_n 0, 1) := by decide +kernel
theorem dX6_village_96 : decode cX6_village 96 = .ok (.getfield 72, 3) := by decide +kernel
theorem dX6_village_99 : decode cX6_village 99 = .ok (.ireturn, 1) := by decide +kernel
theorem dX6_readPlan_0 : decode cX6_readPlan 0 = .ok (.aload_n 0, 1) := by decide +kernel
theorem dX6_readPlan_1 : decode cX6_readPlan 1 = .ok (.iconst 0, 1) := by decide +kernel
theorem dX6_readPlan_2 : decode cX6_readPlan 2 = .ok (.putfield 135, 3) := by decide +kernel
theorem dX6_readPlan_5 : decode cX6_readPlan 5 = .ok (.aload_n 0, 1) := by decide +kernel
theorem dX6_readPlan_6 : decode cX6_readPlan 6 = .ok (.iconst 0, 1) := by decide +kernel
theorem dX6_readPlan_7 : decode cX6_readPlan 7 = .ok (.putfield 149, 3) := by decide +kernel
theorem dX6_readPlan_10 : decode cX6_readPlan 10 = .ok (.aload_n 0, 1) := by decide +kernel
theorem dX6_readPlan_11 : decode cX6_readPlan 11 = .ok (.getfield 149, 3) := by decide +kernel
theorem dX6_readPlan_14 : decode cX6_readPlan 14 = .ok (.ifCond .eq 10, 3) := by decide +kernel
theorem dX6_readPlan_17 : decode cX6_readPlan 17 = .ok (.aload_n 0, 1) := by decide +kernel
theorem dX6_readPlan_18 : decode cX6_readPlan 18 = .ok (.invokevirtual 138, 3) := by decide +kernel
theorem dX6_readPlan_21 : decode cX6_readPlan 21 = .ok (.ifCond .lt 83, 3) := by decide +kernel
theorem dX6_readPlan_24 : decode cX6_readPlan 24 = .ok (.aload_n 0, 1) := by decide +kernel
theorem dX6_readPlan_25 : decode cX6_readPlan 25 = .ok (.invokevirtual 138, 3) := by decide +kernel
theorem dX6_readPlan_28 : decode cX6_readPlan 28 = .ok (.istore_n 1, 1) := by decide +kernel
theorem dX6_readPlan_29 : decode cX6_readPlan 29 = .ok (.iload_n 1, 1) := by decide +kernel
theorem dX6_readPlan_30 : decode cX6_readPlan 30 = .ok (.bipush 46, 2) := by decide +kernel
theorem dX6_readPlan_32 : decode cX6_readPlan 32 = .ok (.if_icmp .eq 14, 3) := by decide +kernel
theorem dX6_readPlan_35 : decode cX6_readPlan 35 = .ok (.aload_n 0, 1) := by decide +kernel
theorem dX6_readPlan_36 : decode cX6_readPlan 36 = .ok (.iload_n 1, 1) := by decide +kernel
theorem dX6_readPlan_37 : decode cX6_readPlan 37 = .ok (.bipush 48, 2) := by decide +kernel
theorem dX6_readPlan_39 : decode cX6_readPlan 39 = .ok (.isub, 1) := by decide +kernel
theorem dX6_readPlan_40 : decode cX6_readPlan 40 = .ok (.invokevirtual 91, 3) := by decide +kernel
theorem dX6_readPlan_43 : decode cX6_readPlan 43 = .ok (.ifCond .eq 12, 3) := by decide +kernel
theorem dX6_readPlan_46 : decode cX6_readPlan 46 = .ok (.aload_n 0, 1) := by decide +kernel
theorem dX6_readPlan_47 : decode cX6_readPlan 47 = .ok (.getfield 149, 3) := by decide +kernel
theorem dX6_readPlan_50 : decode cX6_readPlan 50 = .ok (.bipush 24, 2) := by decide +kernel
theorem dX6_readPlan_52 : decode cX6_readPlan 52 = .ok (.if_icmp .ne 5, 3) := by decide +kernel
theorem dX6_readPlan_55 : decode cX6_readPlan 55 = .ok (.iconst 0, 1) := by decide +kernel
theorem dX6_readPlan_56 : decode cX6_readPlan 56 = .ok (.ireturn, 1) := by decide +kernel
theorem dX6_readPlan_57 : decode cX6_readPlan 57 = .ok (.aload_n 0, 1) := by decide +kernel
theorem dX6_readPlan_58 : decode cX6_readPlan 58 = .ok (.getfield 44, 3) := by decide +kernel
theorem dX6_readPlan_61 : decode cX6_readPlan 61 = .ok (.aload_n 0, 1) := by decide +kernel
theorem dX6_readPlan_62 : decode cX6_readPlan 62 = .ok (.getfield 149, 3) := by decide +kernel
theorem dX6_readPlan_65 : decode cX6_readPlan 65 = .ok (.iload_n 1, 1) := by decide +kernel
theorem dX6_readPlan_66 : decode cX6_readPlan 66 = .ok (.bipush 46, 2) := by decide +kernel
theorem dX6_readPlan_68 : decode cX6_readPlan 68 = .ok (.if_icmp .ne 8, 3) := by decide +kernel
theorem dX6_readPlan_71 : decode cX6_readPlan 71 = .ok (.bipush 9, 2) := by decide +kernel
theorem dX6_readPlan_73 : decode cX6_readPlan 73 = .ok (.goto 7, 3) := by decide +kernel
theorem dX6_readPlan_76 : decode cX6_readPlan 76 = .ok (.iload_n 1, 1) := by decide +kernel
theorem dX6_readPlan_77 : decode cX6_readPlan 77 = .ok (.bipush 48, 2) := by decide +kernel
theorem dX6_readPlan_79 : decode cX6_readPlan 79 = .ok (.isub, 1) := by decide +kernel
theorem dX6_readPlan_80 : decode cX6_readPlan 80 = .ok (.iastore, 1) := by decide +kernel
theorem dX6_readPlan_81 : decode cX6_readPlan 81 = .ok (.aload_n 0, 1) := by decide +kernel
theorem dX6_readPlan_82 : decode cX6_readPlan 82 = .ok (.dup, 1) := by decide +kernel
theorem dX6_readPlan_83 : decode cX6_readPlan 83 = .ok (.getfield 149, 3) := by decide +kernel
theorem dX6_readPlan_86 : decode cX6_readPlan 86 = .ok (.iconst 1, 1) := by decide +kernel
theorem dX6_readPlan_87 : decode cX6_readPlan 87 = .ok (.iadd, 1) := by decide +kernel
theorem dX6_readPlan_88 : decode cX6_readPlan 88 = .ok (.putfield 149, 3) := by decide +kernel
theorem dX6_readPlan_91 : decode cX6_readPlan 91 = .ok (.aload_n 0, 1) := by decide +kernel
theorem dX6_readPlan_92 : decode cX6_readPlan 92 = .ok (.dup, 1) := by decide +kernel
theorem dX6_readPlan_93 : decode cX6_readPlan 93 = .ok (.getfield 135, 3) := by decide +kernel
theorem dX6_readPlan_96 : decode cX6_readPlan 96 = .ok (.iconst 1, 1) := by decide +kernel
theorem dX6_readPlan_97 : decode cX6_readPlan 97 = .ok (.iadd, 1) := by decide +kernel
theorem dX6_readPlan_98 : decode cX6_readPlan 98 = .ok (.putfield 135, 3) := by decide +kernel
theorem dX6_readPlan_101 : decode cX6_readPlan 101 = .ok (.goto (-91), 3) := by decide +kernel
theorem dX6_readPlan_104 : decode cX6_readPlan 104 = .ok (.iconst 1, 1) := by decide +kernel
theorem dX6_readPlan_105 : decode cX6_readPlan 105 = .ok (.ireturn, 1) := by decide +kernel
theorem dX6_plan_0 : decode cX6_plan 0 = .ok (.aload_n 0, 1) := by decide +kernel
theorem dX6_plan_1 : decode cX6_plan 1 = .ok (.invokevirtual 156, 3) := by decide +kernel
theorem dX6_plan_4 : decode cX6_plan 4 = .ok (.istore_n 1, 1) := by decide +kernel
theorem dX6_plan_5 : decode cX6_plan 5 = .ok (.iload_n 1, 1) := by decide +kernel
theorem dX6_plan_6 : decode cX6_plan 6 = .ok (.ifCond .ne 8, 3) := by decide +kernel
theorem dX6_plan_9 : decode cX6_plan 9 = .ok (.aload_n 0, 1) := by decide +kernel
theorem dX6_plan_10 : decode cX6_plan 10 = .ok (.invokevirtual 138, 3) := by decide +kernel
theorem dX6_plan_13 : decode cX6_plan 13 = .ok (.pop, 1) := by decide +kernel
theorem dX6_plan_14 : decode cX6_plan 14 = .ok (.aload_n 0, 1) := by decide +kernel
theorem dX6_plan_15 : decode cX6_plan 15 = .ok (.iconst 0, 1) := by decide +kernel
theorem dX6_plan_16 : decode cX6_plan 16 = .ok (.putfield 132, 3) := by decide +kernel
theorem dX6_plan_19 : decode cX6_plan 19 = .ok (.iload_n 1, 1) := by decide +kernel
theorem dX6_plan_20 : decode cX6_plan 20 = .ok (.ifCond .ne 11, 3) := by decide +kernel
theorem dX6_plan_23 : decode cX6_plan 23 = .ok (.bipush (-20), 2) := by decide +kernel
theorem dX6_plan_25 : decode cX6_plan 25 = .ok (.aload_n 0, 1) := by decide +kernel
theorem dX6_plan_26 : decode cX6_plan 26 = .ok (.getfield 135, 3) := by decide +kernel
theorem dX6_plan_29 : decode cX6_plan 29 = .ok (.isub, 1) := by decide +kernel
theorem dX6_plan_30 : decode cX6_plan 30 = .ok (.ireturn, 1) := by decide +kernel
theorem dX6_plan_31 : decode cX6_plan 31 = .ok (.aload_n 0, 1) := by decide +kernel
theorem dX6_plan_32 : decode cX6_plan 32 = .ok (.aload_n 0, 1) := by decide +kernel
theorem dX6_plan_33 : decode cX6_plan 33 = .ok (.getfield 149, 3) := by decide +kernel
theorem dX6_plan_36 : decode cX6_plan 36 = .ok (.putfield 121, 3) := by decide +kernel
theorem dX6_plan_39 : decode cX6_plan 39 = .ok (.iconst 0, 1) := by decide +kernel
theorem dX6_plan_40 : decode cX6_plan 40 = .ok (.istore_n 2, 1) := by decide +kernel
theorem dX6_plan_41 : decode cX6_plan 41 = .ok (.iload_n 2, 1) := by decide +kernel
theorem dX6_plan_42 : decode cX6_plan 42 = .ok (.aload_n 0, 1) := by decide +kernel
theorem dX6_plan_43 : decode cX6_plan 43 = .ok (.getfield 149, 3) := by decide +kernel
theorem dX6_plan_46 : decode cX6_plan 46 = .ok (.if_icmp .ge 21, 3) := by decide +kernel
theorem dX6_plan_49 : decode cX6_plan 49 = .ok (.aload_n 0, 1) := by decide +kernel
theorem dX6_plan_50 : decode cX6_plan 50 = .ok (.getfield 35, 3) := by decide +kernel
theorem dX6_plan_53 : decode cX6_plan 53 = .ok (.iload_n 2, 1) := by decide +kernel
theorem dX6_plan_54 : decode cX6_plan 54 = .ok (.aload_n 0, 1) := by decide +kernel
theorem dX6_plan_55 : decode cX6_plan 55 = .ok (.getfield 44, 3) := by decide +kernel
theorem dX6_plan_58 : decode cX6_plan 58 = .ok (.iload_n 2, 1) := by decide +kernel
theorem dX6_plan_59 : decode cX6_plan 59 = .ok (.iaload, 1) := by decide +kernel
theorem dX6_plan_60 : decode cX6_plan 60 = .ok (.iastore, 1) := by decide +kernel
theorem dX6_plan_61 : decode cX6_plan 61 = .ok (.iinc 2 1, 3) := by decide +kernel
theorem dX6_plan_64 : decode cX6_plan 64 = .ok (.goto (-23), 3) := by decide +kernel
theorem dX6_plan_67 : decode cX6_plan 67 = .ok (.aload_n 0, 1) := by decide +kernel
theorem dX6_plan_68 : decode cX6_plan 68 = .ok (.getfield 121, 3) := by decide +kernel
theorem dX6_plan_71 : decode cX6_plan 71 = .ok (.ireturn, 1) := by decide +kernel
theorem dX6_pailsOf_0 : decode cX6_pailsOf 0 = .ok (.iload_n 0, 1) := by decide +kernel
theorem dX6_pailsOf_1 : decode cX6_pailsOf 1 = .ok (.iconst 1, 1) := by decide +kernel
theorem dX6_pailsOf_2 : decode cX6_pailsOf 2 = .ok (.if_icmp .ne 9, 3) := by decide +kernel
theorem dX6_pailsOf_5 : decode cX6_pailsOf 5 = .ok (.iconst 5, 1) := by decide +kernel
theorem dX6_pailsOf_6 : decode cX6_pailsOf 6 = .ok (.iload_n 1, 1) := by decide +kernel
theorem dX6_pailsOf_7 : decode cX6_pailsOf 7 = .ok (.iadd, 1) := by decide +kernel
theorem dX6_pailsOf_8 : decode cX6_pailsOf 8 = .ok (.goto 17, 3) := by decide +kernel
theorem dX6_pailsOf_11 : decode cX6_pailsOf 11 = .ok (.iload_n 0, 1) := by decide +kernel
theorem dX6_pailsOf_12 : decode cX6_pailsOf 12 = .ok (.iconst 3, 1) := by decide +kernel
theorem dX6_pailsOf_13 : decode cX6_pailsOf 13 = .ok (.if_icmp .ne 9, 3) := by decide +kernel
theorem dX6_pailsOf_16 : decode cX6_pailsOf 16 = .ok (.iconst 2, 1) := by decide +kernel
theorem dX6_pailsOf_17 : decode cX6_pailsOf 17 = .ok (.iload_n 1, 1) := by decide +kernel
theorem dX6_pailsOf_18 : decode cX6_pailsOf 18 = .ok (.iadd, 1) := by decide +kernel
theorem dX6_pailsOf_19 : decode cX6_pailsOf 19 = .ok (.goto 6, 3) := by decide +kernel
theorem dX6_pailsOf_22 : decode cX6_pailsOf 22 = .ok (.iconst 4, 1) := by decide +kernel
theorem dX6_pailsOf_23 : decode cX6_pailsOf 23 = .ok (.iload_n 1, 1) := by decide +kernel
theorem dX6_pailsOf_24 : decode cX6_pailsOf 24 = .ok (.iadd, 1) := by decide +kernel
theorem dX6_pailsOf_25 : decode cX6_pailsOf 25 = .ok (.istore_n 2, 1) := by decide +kernel
theorem dX6_pailsOf_26 : decode cX6_pailsOf 26 = .ok (.iload_n 2, 1) := by decide +kernel
theorem dX6_pailsOf_27 : decode cX6_pailsOf 27 = .ok (.ifCond .ge 7, 3) := by decide +kernel
theorem dX6_pailsOf_30 : decode cX6_pailsOf 30 = .ok (.iconst 0, 1) := by decide +kernel
theorem dX6_pailsOf_31 : decode cX6_pailsOf 31 = .ok (.goto 15, 3) := by decide +kernel
theorem dX6_pailsOf_34 : decode cX6_pailsOf 34 = .ok (.iload_n 2, 1) := by decide +kernel
theorem dX6_pailsOf_35 : decode cX6_pailsOf 35 = .ok (.bipush 9, 2) := by decide +kernel
theorem dX6_pailsOf_37 : decode cX6_pailsOf 37 = .ok (.if_icmp .le 8, 3) := by decide +kernel
theorem dX6_pailsOf_40 : decode cX6_pailsOf 40 = .ok (.bipush 9, 2) := by decide +kernel
theorem dX6_pailsOf_42 : decode cX6_pailsOf 42 = .ok (.goto 4, 3) := by decide +kernel
theorem dX6_pailsOf_45 : decode cX6_pailsOf 45 = .ok (.iload_n 2, 1) := by decide +kernel
theorem dX6_pailsOf_46 : decode cX6_pailsOf 46 = .ok (.ireturn, 1) := by decide +kernel
theorem dX6_isSweet_0 : decode cX6_isSweet 0 = .ok (.iload_n 0, 1) := by decide +kernel
theorem dX6_isSweet_1 : decode cX6_isSweet 1 = .ok (.iconst 1, 1) := by decide +kernel
theorem dX6_isSweet_2 : decode cX6_isSweet 2 = .ok (.if_icmp .eq 11, 3) := by decide +kernel
theorem dX6_isSweet_5 : decode cX6_isSweet 5 = .ok (.iload_n 0, 1) := by decide +kernel
theorem dX6_isSweet_6 : decode cX6_isSweet 6 = .ok (.ifCond .ne 11, 3) := by decide +kernel
theorem dX6_isSweet_9 : decode cX6_isSweet 9 = .ok (.iload_n 1, 1) := by decide +kernel
theorem dX6_isSweet_10 : decode cX6_isSweet 10 = .ok (.ifCond .lt 7, 3) := by decide +kernel
theorem dX6_isSweet_13 : decode cX6_isSweet 13 = .ok (.iconst 1, 1) := by decide +kernel
theorem dX6_isSweet_14 : decode cX6_isSweet 14 = .ok (.goto 4, 3) := by decide +kernel
theorem dX6_isSweet_17 : decode cX6_isSweet 17 = .ok (.iconst 0, 1) := by decide +kernel
theorem dX6_isSweet_18 : decode cX6_isSweet 18 = .ok (.ireturn, 1) := by decide +kernel
theorem dX6_most9_0 : decode cX6_most9 0 = .ok (.iload_n 0, 1) := by decide +kernel
theorem dX6_most9_1 : decode cX6_most9 1 = .ok (.bipush 9, 2) := by decide +kernel
theorem dX6_most9_3 : decode cX6_most9 3 = .ok (.if_icmp .le 8, 3) := by decide +kernel
theorem dX6_most9_6 : decode cX6_most9 6 = .ok (.bipush 9, 2) := by decide +kernel
theorem dX6_most9_8 : decode cX6_most9 8 = .ok (.goto 15, 3) := by decide +kernel
theorem dX6_most9_11 : decode cX6_most9 11 = .ok (.iload_n 0, 1) := by decide +kernel
theorem dX6_most9_12 : decode cX6_most9 12 = .ok (.bipush (-9), 2) := by decide +kernel
theorem dX6_most9_14 : decode cX6_most9 14 = .ok (.if_icmp .ge 8, 3) := by decide +kernel
theorem dX6_most9_17 : decode cX6_most9 17 = .ok (.bipush (-9), 2) := by decide +kernel
theorem dX6_most9_19 : decode cX6_most9 19 = .ok (.goto 4, 3) := by decide +kernel
theorem dX6_most9_22 : decode cX6_most9 22 = .ok (.iload_n 0, 1) := by decide +kernel
theorem dX6_most9_23 : decode cX6_most9 23 = .ok (.ireturn, 1) := by decide +kernel
theorem dX6_wane_0 : decode cX6_wane 0 = .ok (.iload_n 0, 1) := by decide +kernel
theorem dX6_wane_1 : decode cX6_wane 1 = .ok (.ifCond .le 9, 3) := by decide +kernel
theorem dX6_wane_4 : decode cX6_wane 4 = .ok (.iload_n 0, 1) := by decide +kernel
theorem dX6_wane_5 : decode cX6_wane 5 = .ok (.iconst 1, 1) := by decide +kernel
theorem dX6_wane_6 : decode cX6_wane 6 = .ok (.isub, 1) := by decide +kernel
theorem dX6_wane_7 : decode cX6_wane 7 = .ok (.goto 14, 3) := by decide +kernel
theorem dX6_wane_10 : decode cX6_wane 10 = .ok (.iload_n 0, 1) := by decide +kernel
theorem dX6_wane_11 : decode cX6_wane 11 = .ok (.ifCond .ge 9, 3) := by decide +kernel
theorem dX6_wane_14 : decode cX6_wane 14 = .ok (.iload_n 0, 1) := by decide +kernel
theorem dX6_wane_15 : decode cX6_wane 15 = .ok (.iconst 1, 1) := by decide +kernel
theorem dX6_wane_16 : decode cX6_wane 16 = .ok (.iadd, 1) := by decide +kernel
theorem dX6_wane_17 : decode cX6_wane 17 = .ok (.goto 4, 3) := by decide +kernel
theorem dX6_wane_20 : decode cX6_wane 20 = .ok (.iconst 0, 1) := by decide +kernel
theorem dX6_wane_21 : decode cX6_wane 21 = .ok (.ireturn, 1) := by decide +kernel
theorem dX6_feltBy_0 : decode cX6_feltBy 0 = .ok (.aload_n 0, 1) := by decide +kernel
theorem dX6_feltBy_1 : decode cX6_feltBy 1 = .ok (.getfield 7, 3) := by decide +kernel
theorem dX6_feltBy_4 : decode cX6_feltBy 4 = .ok (.iload_n 1, 1) := by decide +kernel
theorem dX6_feltBy_5 : decode cX6_feltBy 5 = .ok (.iaload, 1) := by decide +kernel
theorem dX6_feltBy_6 : decode cX6_feltBy 6 = .ok (.iconst 3, 1) := by decide +kernel
theorem dX6_feltBy_7 : decode cX6_feltBy 7 = .ok (.if_icmp .ne 13, 3) := by decide +kernel
theorem dX6_feltBy_10 : decode cX6_feltBy 10 = .ok (.aload_n 0, 1) := by decide +kernel
theorem dX6_feltBy_11 : decode cX6_feltBy 11 = .ok (.getfield 13, 3) := by decide +kernel
theorem dX6_feltBy_14 : decode cX6_feltBy 14 = .ok (.iload_n 1, 1) := by decide +kernel
theorem dX6_feltBy_15 : decode cX6_feltBy 15 = .ok (.iaload, 1) := by decide +kernel
theorem dX6_feltBy_16 : decode cX6_feltBy 16 = .ok (.ineg, 1) := by decide +kernel
theorem dX6_feltBy_17 : decode cX6_feltBy 17 = .ok (.goto 9, 3) := by decide +kernel
theorem dX6_feltBy_20 : decode cX6_feltBy 20 = .ok (.aload_n 0, 1) := by decide +kernel
theorem dX6_feltBy_21 : decode cX6_feltBy 21 = .ok (.getfield 13, 3) := by decide +kernel
theorem dX6_feltBy_24 : decode cX6_feltBy 24 = .ok (.iload_n 1, 1) := by decide +kernel
theorem dX6_feltBy_25 : decode cX6_feltBy 25 = .ok (.iaload, 1) := by decide +kernel
theorem dX6_feltBy_26 : decode cX6_feltBy 26 = .ok (.ireturn, 1) := by decide +kernel
theorem dX6_begin_0 : decode cX6_begin 0 = .ok (.aload_n 0, 1) := by decide +kernel
theorem dX6_begin_1 : decode cX6_begin 1 = .ok (.aload_n 0, 1) := by decide +kernel
theorem dX6_begin_2 : decode cX6_begin 2 = .ok (.getfield 112, 3) := by decide +kernel
theorem dX6_begin_5 : decode cX6_begin 5 = .ok (.putfield 159, 3) := by decide +kernel
theorem dX6_begin_8 : decode cX6_begin 8 = .ok (.aload_n 0, 1) := by decide +kernel
theorem dX6_begin_9 : decode cX6_begin 9 = .ok (.aload_n 0, 1) := by decide +kernel
theorem dX6_begin_10 : decode cX6_begin 10 = .ok (.getfield 25, 3) := by decide +kernel
theorem dX6_begin_13 : decode cX6_begin 13 = .ok (.putfield 162, 3) := by decide +kernel
theorem dX6_begin_16 : decode cX6_begin 16 = .ok (.aload_n 0, 1) := by decide +kernel
theorem dX6_begin_17 : decode cX6_begin 17 = .ok (.aload_n 0, 1) := by decide +kernel
theorem dX6_begin_18 : decode cX6_begin 18 = .ok (.getfield 98, 3) := by decide +kernel
theorem dX6_begin_21 : decode cX6_begin 21 = .ok (.putfield 165, 3) := by decide +kernel
theorem dX6_begin_24 : decode cX6_begin 24 = .ok (.aload_n 0, 1) := by decide +kernel
theorem dX6_begin_25 : decode cX6_begin 25 = .ok (.aload_n 0, 1) := by decide +kernel
theorem dX6_begin_26 : decode cX6_begin 26 = .ok (.getfield 32, 3) := by decide +kernel
theorem dX6_begin_29 : decode cX6_begin 29 = .ok (.putfield 168, 3) := by decide +kernel
theorem dX6_begin_32 : decode cX6_begin 32 = .ok (.iconst 0, 1) := by decide +kernel
theorem dX6_begin_33 : decode cX6_begin 33 = .ok (.istore_n 1, 1) := by decide +kernel
theorem dX6_begin_34 : decode cX6_begin 34 = .ok (.iload_n 1, 1) := by decide +kernel
theorem dX6_begin_35 : decode cX6_begin 35 = .ok (.bipush 6, 2) := by decide +kernel
theorem dX6_begin_37 : decode cX6_begin 37 = .ok (.if_icmp .ge 21, 3) := by decide +kernel
theorem dX6_begin_40 : decode cX6_begin 40 = .ok (.aload_n 0, 1) := by decide +kernel
theorem dX6_begin_41 : decode cX6_begin 41 = .ok (.getfield 47, 3) := by decide +kernel
theorem dX6_begin_44 : decode cX6_begin 44 = .ok (.iload_n 1, 1) := by decide +kernel
theorem dX6_begin_45 : decode cX6_begin 45 = .ok (.aload_n 0, 1) := by decide +kernel
theorem dX6_begin_46 : decode cX6_begin 46 = .ok (.getfield 22, 3) := by decide +kernel
theorem dX6_begin_49 : decode cX6_begin 49 = .ok (.iload_n 1, 1) := by decide +kernel
theorem dX6_begin_50 : decode cX6_begin 50 = .ok (.iaload, 1) := by decide +kernel
theorem dX6_begin_51 : decode cX6_begin 51 = .ok (.iastore, 1) := by decide +kernel
theorem dX6_begin_52 : decode cX6_begin 52 = .ok (.iinc 1 1, 3) := by decide +kernel
theorem dX6_begin_55 : decode cX6_begin 55 = .ok (.goto (-21), 3) := by decide +kernel
theorem dX6_begin_58 : decode cX6_begin 58 = .ok (.return_, 1) := by decide +kernel
theorem dX6_tryOne_0 : decode cX6_tryOne 0 = .ok (.aload_n 0, 1) := by decide +kernel
theorem dX6_tryOne_1 : decode cX6_tryOne 1 = .ok (.iconst 0, 1) := by decide +kernel
theorem dX6_tryOne_2 : decode cX6_tryOne 2 = .ok (.putfield 171, 3) := by decide +kernel
theorem dX6_tryOne_5 : decode cX6_tryOne 5 = .ok (.aload_n 0, 1) := by decide +kernel
theorem dX6_tryOne_6 : decode cX6_tryOne 6 = .ok (.iconst 0, 1) := by decide +kernel
theorem dX6_tryOne_7 : decode cX6_tryOne 7 = .ok (.putfield 174, 3) := by decide +kernel
theorem dX6_tryOne_10 : decode cX6_tryOne 10 = .ok (.iload_n 1, 1) := by decide +kernel
theorem dX6_tryOne_11 : decode cX6_tryOne 11 = .ok (.bipush 9, 2) := by decide +kernel
theorem dX6_tryOne_13 : decode cX6_tryOne 13 = .ok (.if_icmp .eq 155, 3) := by decide +kernel
theorem dX6_tryOne_16 : decode cX6_tryOne 16 = .ok (.aload_n 0, 1) := by decide +kernel
theorem dX6_tryOne_17 : decode cX6_tryOne 17 = .ok (.getfield 47, 3) := by decide +kernel
theorem dX6_tryOne_20 : decode cX6_tryOne 20 = .ok (.iload_n 1, 1) := by decide +kernel
theorem dX6_tryOne_21 : decode cX6_tryOne 21 = .ok (.iaload, 1) := by decide +kernel
theorem dX6_tryOne_22 : decode cX6_tryOne 22 = .ok (.aload_n 0, 1) := by decide +kernel
theorem dX6_tryOne_23 : decode cX6_tryOne 23 = .ok (.getfield 165, 3) := by decide +kernel
theorem dX6_tryOne_26 : decode cX6_tryOne 26 = .ok (.if_icmp .le 5, 3) := by decide +kernel
theorem dX6_tryOne_29 : decode cX6_tryOne 29 = .ok (.iconst 0, 1) := by decide +kernel
theorem dX6_tryOne_30 : decode cX6_tryOne 30 = .ok (.ireturn, 1) := by decide +kernel
theorem dX6_tryOne_31 : decode cX6_tryOne 31 = .ok (.aload_n 0, 1) := by decide +kernel
theorem dX6_tryOne_32 : decode cX6_tryOne 32 = .ok (.getfield 168, 3) := by decide +kernel
theorem dX6_tryOne_35 : decode cX6_tryOne 35 = .ok (.bipush 9, 2) := by decide +kernel
theorem dX6_tryOne_37 : decode cX6_tryOne 37 = .ok (.if_icmp .eq 23, 3) := by decide +kernel
theorem dX6_tryOne_40 : decode cX6_tryOne 40 = .ok (.aload_n 0, 1) := by decide +kernel
theorem dX6_tryOne_41 : decode cX6_tryOne 41 = .ok (.getfield 19, 3) := by decide +kernel
theorem dX6_tryOne_44 : decode cX6_tryOne 44 = .ok (.iload_n 1, 1) := by decide +kernel
theorem dX6_tryOne_45 : decode cX6_tryOne 45 = .ok (.iaload, 1) := by decide +kernel
theorem dX6_tryOne_46 : decode cX6_tryOne 46 = .ok (.aload_n 0, 1) := by decide +kernel
theorem dX6_tryOne_47 : decode cX6_tryOne 47 = .ok (.getfield 168, 3) := by decide +kernel
theorem dX6_tryOne_50 : decode cX6_tryOne 50 = .ok (.invokestatic 178, 3) := by decide +kernel
theorem dX6_tryOne_53 : decode cX6_tryOne 53 = .ok (.ifCond .eq 7, 3) := by decide +kernel
theorem dX6_tryOne_56 : decode cX6_tryOne 56 = .ok (.iconst 1, 1) := by decide +kernel
theorem dX6_tryOne_57 : decode cX6_tryOne 57 = .ok (.goto 4, 3) := by decide +kernel
theorem dX6_tryOne_60 : decode cX6_tryOne 60 = .ok (.iconst 0, 1) := by decide +kernel
theorem dX6_tryOne_61 : decode cX6_tryOne 61 = .ok (.istore_n 2, 1) := by decide +kernel
theorem dX6_tryOne_62 : decode cX6_tryOne 62 = .ok (.aload_n 0, 1) := by decide +kernel
theorem dX6_tryOne_63 : decode cX6_tryOne 63 = .ok (.getfield 7, 3) := by decide +kernel
theorem dX6_tryOne_66 : decode cX6_tryOne 66 = .ok (.iload_n 1, 1) := by decide +kernel
theorem dX6_tryOne_67 : decode cX6_tryOne 67 = .ok (.iaload, 1) := by decide +kernel
theorem dX6_tryOne_68 : decode cX6_tryOne 68 = .ok (.aload_n 0, 1) := by decide +kernel
theorem dX6_tryOne_69 : decode cX6_tryOne 69 = .ok (.getfield 159, 3) := by decide +kernel
theorem dX6_tryOne_72 : decode cX6_tryOne 72 = .ok (.invokestatic 182, 3) := by decide +kernel
theorem dX6_tryOne_75 : decode cX6_tryOne 75 = .ok (.istore_n 3, 1) := by decide +kernel
theorem dX6_tryOne_76 : decode cX6_tryOne 76 = .ok (.aload_n 0, 1) := by decide +kernel
theorem dX6_tryOne_77 : decode cX6_tryOne 77 = .ok (.iload_n 2, 1) := by decide +kernel
theorem dX6_tryOne_78 : decode cX6_tryOne 78 = .ok (.ifCond .eq 7, 3) := by decide +kernel
theorem dX6_tryOne_81 : decode cX6_tryOne 81 = .ok (.iconst 0, 1) := by decide +kernel
theorem dX6_tryOne_82 : decode cX6_tryOne 82 = .ok (.goto 19, 3) := by decide +kernel
theorem dX6_tryOne_85 : decode cX6_tryOne 85 = .ok (.iload_n 3, 1) := by decide +kernel
theorem dX6_tryOne_86 : decode cX6_tryOne 86 = .ok (.aload_n 0, 1) := by decide +kernel
theorem dX6_tryOne_87 : decode cX6_tryOne 87 = .ok (.getfield 162, 3) := by decide +kernel
theorem dX6_tryOne_90 : decode cX6_tryOne 90 = .ok (.if_icmp .ge 7, 3) := by decide +kernel
theorem dX6_tryOne_93 : decode cX6_tryOne 93 = .ok (.iload_n 3, 1) := by decide +kernel
theorem dX6_tryOne_94 : decode cX6_tryOne 94 = .ok (.goto 7, 3) := by decide +kernel
theorem dX6_tryOne_97 : decode cX6_tryOne 97 = .ok (.aload_n 0, 1) := by decide +kernel
theorem dX6_tryOne_98 : decode cX6_tryOne 98 = .ok (.getfield 162, 3) := by decide +kernel
theorem dX6_tryOne_101 : decode cX6_tryOne 101 = .ok (.putfield 171, 3) := by decide +kernel
theorem dX6_tryOne_104 : decode cX6_tryOne 104 = .ok (.aload_n 0, 1) := by decide +kernel
theorem dX6_tryOne_105 : decode cX6_tryOne 105 = .ok (.aload_n 0, 1) := by decide +kernel
theorem dX6_tryOne_106 : decode cX6_tryOne 106 = .ok (.getfield 7, 3) := by decide +kernel
theorem dX6_tryOne_109 : decode cX6_tryOne 109 = .ok (.iload_n 1, 1) := by decide +kernel
theorem dX6_tryOne_110 : decode cX6_tryOne 110 = .ok (.iaload, 1) := by decide +kernel
theorem dX6_tryOne_111 : decode cX6_tryOne 111 = .ok (.aload_n 0, 1) := by decide +kernel
theorem dX6_tryOne_112 : decode cX6_tryOne 112 = .ok (.getfield 159, 3) := by decide +kernel
theorem dX6_tryOne_115 : decode cX6_tryOne 115 = .ok (.invokestatic 185, 3) := by decide +kernel
theorem dX6_tryOne_118 : decode cX6_tryOne 118 = .ok (.putfield 174, 3) := by decide +kernel
theorem dX6_tryOne_121 : decode cX6_tryOne 121 = .ok (.aload_n 0, 1) := by decide +kernel
theorem dX6_tryOne_122 : decode cX6_tryOne 122 = .ok (.dup, 1) := by decide +kernel
theorem dX6_tryOne_123 : decode cX6_tryOne 123 = .ok (.getfield 162, 3) := by decide +kernel
theorem dX6_tryOne_126 : decode cX6_tryOne 126 = .ok (.aload_n 0, 1) := by decide +kernel
theorem dX6_tryOne_127 : decode cX6_tryOne 127 = .ok (.getfield 171, 3) := by decide +kernel
theorem dX6_tryOne_130 : decode cX6_tryOne 130 = .ok (.isub, 1) := by decide +kernel
theorem dX6_tryOne_131 : decode cX6_tryOne 131 = .ok (.putfield 162, 3) := by decide +kernel
theorem dX6_tryOne_134 : decode cX6_tryOne 134 = .ok (.aload_n 0, 1) := by decide +kernel
theorem dX6_tryOne_135 : decode cX6_tryOne 135 = .ok (.aload_n 0, 1) := by decide +kernel
theorem dX6_tryOne_136 : decode cX6_tryOne 136 = .ok (.getfield 159, 3) := by decide +kernel
theorem dX6_tryOne_139 : decode cX6_tryOne 139 = .ok (.aload_n 0, 1) := by decide +kernel
theorem dX6_tryOne_140 : decode cX6_tryOne 140 = .ok (.iload_n 1, 1) := by decide +kernel
theorem dX6_tryOne_141 : decode cX6_tryOne 141 = .ok (.invokevirtual 188, 3) := by decide +kernel
theorem dX6_tryOne_144 : decode cX6_tryOne 144 = .ok (.iadd, 1) := by decide +kernel
theorem dX6_tryOne_145 : decode cX6_tryOne 145 = .ok (.invokestatic 192, 3) := by decide +kernel
theorem dX6_tryOne_148 : decode cX6_tryOne 148 = .ok (.putfield 159, 3) := by decide +kernel
theorem dX6_tryOne_151 : decode cX6_tryOne 151 = .ok (.aload_n 0, 1) := by decide +kernel
theorem dX6_tryOne_152 : decode cX6_tryOne 152 = .ok (.getfield 47, 3) := by decide +kernel
theorem dX6_tryOne_155 : decode cX6_tryOne 155 = .ok (.iload_n 1, 1) := by decide +kernel
theorem dX6_tryOne_156 : decode cX6_tryOne 156 = .ok (.aload_n 0, 1) := by decide +kernel
theorem dX6_tryOne_157 : decode cX6_tryOne 157 = .ok (.getfield 165, 3) := by decide +kernel
theorem dX6_tryOne_160 : decode cX6_tryOne 160 = .ok (.aload_n 0, 1) := by decide +kernel
theorem dX6_tryOne_161 : decode cX6_tryOne 161 = .ok (.getfield 16, 3) := by decide +kernel
theorem dX6_tryOne_164 : decode cX6_tryOne 164 = .ok (.iload_n 1, 1) := by decide +kernel
theorem dX6_tryOne_165 : decode cX6_tryOne 165 = .ok (.iaload, 1) := by decide +kernel
theorem dX6_tryOne_166 : decode cX6_tryOne 166 = .ok (.iadd, 1) := by decide +kernel
theorem dX6_tryOne_167 : decode cX6_tryOne 167 = .ok (.iastore, 1) := by decide +kernel
theorem dX6_tryOne_168 : decode cX6_tryOne 168 = .ok (.aload_n 0, 1) := by decide +kernel
theorem dX6_tryOne_169 : decode cX6_tryOne 169 = .ok (.iload_n 1, 1) := by decide +kernel
theorem dX6_tryOne_170 : decode cX6_tryOne 170 = .ok (.putfield 168, 3) := by decide +kernel
theorem dX6_tryOne_173 : decode cX6_tryOne 173 = .ok (.aload_n 0, 1) := by decide +kernel
theorem dX6_tryOne_174 : decode cX6_tryOne 174 = .ok (.aload_n 0, 1) := by decide +kernel
theorem dX6_tryOne_175 : decode cX6_tryOne 175 = .ok (.getfield 159, 3) := by decide +kernel
theorem dX6_tryOne_178 : decode cX6_tryOne 178 = .ok (.invokestatic 195, 3) := by decide +kernel
theorem dX6_tryOne_181 : decode cX6_tryOne 181 = .ok (.putfield 159, 3) := by decide +kernel
theorem dX6_tryOne_184 : decode cX6_tryOne 184 = .ok (.aload_n 0, 1) := by decide +kernel
theorem dX6_tryOne_185 : decode cX6_tryOne 185 = .ok (.aload_n 0, 1) := by decide +kernel
theorem dX6_tryOne_186 : decode cX6_tryOne 186 = .ok (.getfield 162, 3) := by decide +kernel
theorem dX6_tryOne_189 : decode cX6_tryOne 189 = .ok (.aload_n 0, 1) := by decide +kernel
theorem dX6_tryOne_190 : decode cX6_tryOne 190 = .ok (.getfield 29, 3) := by decide +kernel
theorem dX6_tryOne_193 : decode cX6_tryOne 193 = .ok (.iadd, 1) := by decide +kernel
theorem dX6_tryOne_194 : decode cX6_tryOne 194 = .ok (.sipush 999, 3) := by decide +kernel
theorem dX6_tryOne_197 : decode cX6_tryOne 197 = .ok (.if_icmp .le 9, 3) := by decide +kernel
theorem dX6_tryOne_200 : decode cX6_tryOne 200 = .ok (.sipush 999, 3) := by decide +kernel
theorem dX6_tryOne_203 : decode cX6_tryOne 203 = .ok (.goto 12, 3) := by decide +kernel
theorem dX6_tryOne_206 : decode cX6_tryOne 206 = .ok (.aload_n 0, 1) := by decide +kernel
theorem dX6_tryOne_207 : decode cX6_tryOne 207 = .ok (.getfield 162, 3) := by decide +kernel
theorem dX6_tryOne_210 : decode cX6_tryOne 210 = .ok (.aload_n 0, 1) := by decide +kernel
theorem dX6_tryOne_211 : decode cX6_tryOne 211 = .ok (.getfield 29, 3) := by decide +kernel
theorem dX6_tryOne_214 : decode cX6_tryOne 214 = .ok (.iadd, 1) := by decide +kernel
theorem dX6_tryOne_215 : decode cX6_tryOne 215 = .ok (.putfield 162, 3) := by decide +kernel
theorem dX6_tryOne_218 : decode cX6_tryOne 218 = .ok (.aload_n 0, 1) := by decide +kernel
theorem dX6_tryOne_219 : decode cX6_tryOne 219 = .ok (.dup, 1) := by decide +kernel
theorem dX6_tryOne_220 : decode cX6_tryOne 220 = .ok (.getfield 165, 3) := by decide +kernel
theorem dX6_tryOne_223 : decode cX6_tryOne 223 = .ok (.iconst 1, 1) := by decide +kernel
theorem dX6_tryOne_224 : decode cX6_tryOne 224 = .ok (.iadd, 1) := by decide +kernel
theorem dX6_tryOne_225 : decode cX6_tryOne 225 = .ok (.putfield 165, 3) := by decide +kernel
theorem dX6_tryOne_228 : decode cX6_tryOne 228 = .ok (.iconst 1, 1) := by decide +kernel
theorem dX6_tryOne_229 : decode cX6_tryOne 229 = .ok (.ireturn, 1) := by decide +kernel
theorem dX6_keep_0 : decode cX6_keep 0 = .ok (.aload_n 0, 1) := by decide +kernel
theorem dX6_keep_1 : decode cX6_keep 1 = .ok (.aload_n 0, 1) := by decide +kernel
theorem dX6_keep_2 : decode cX6_keep 2 = .ok (.getfield 159, 3) := by decide +kernel
theorem dX6_keep_5 : decode cX6_keep 5 = .ok (.putfield 112, 3) := by decide +kernel
theorem dX6_keep_8 : decode cX6_keep 8 = .ok (.aload_n 0, 1) := by decide +kernel
theorem dX6_keep_9 : decode cX6_keep 9 = .ok (.aload_n 0, 1) := by decide +kernel
theorem dX6_keep_10 : decode cX6_keep 10 = .ok (.getfield 162, 3) := by decide +kernel
theorem dX6_keep_13 : decode cX6_keep 13 = .ok (.putfield 25, 3) := by decide +kernel
theorem dX6_keep_16 : decode cX6_keep 16 = .ok (.aload_n 0, 1) := by decide +kernel
theorem dX6_keep_17 : decode cX6_keep 17 = .ok (.aload_n 0, 1) := by decide +kernel
theorem dX6_keep_18 : decode cX6_keep 18 = .ok (.getfield 165, 3) := by decide +kernel
theorem dX6_keep_21 : decode cX6_keep 21 = .ok (.putfield 98, 3) := by decide +kernel
theorem dX6_keep_24 : decode cX6_keep 24 = .ok (.aload_n 0, 1) := by decide +kernel
theorem dX6_keep_25 : decode cX6_keep 25 = .ok (.aload_n 0, 1) := by decide +kernel
theorem dX6_keep_26 : decode cX6_keep 26 = .ok (.getfield 168, 3) := by decide +kernel
theorem dX6_keep_29 : decode cX6_keep 29 = .ok (.putfield 32, 3) := by decide +kernel
theorem dX6_keep_32 : decode cX6_keep 32 = .ok (.aload_n 0, 1) := by decide +kernel
theorem dX6_keep_33 : decode cX6_keep 33 = .ok (.dup, 1) := by decide +kernel
theorem dX6_keep_34 : decode cX6_keep 34 = .ok (.getfield 115, 3) := by decide +kernel
theorem dX6_keep_37 : decode cX6_keep 37 = .ok (.aload_n 0, 1) := by decide +kernel
theorem dX6_keep_38 : decode cX6_keep 38 = .ok (.getfield 174, 3) := by decide +kernel
theorem dX6_keep_41 : decode cX6_keep 41 = .ok (.ifCond .eq 10, 3) := by decide +kernel
theorem dX6_keep_44 : decode cX6_keep 44 = .ok (.aload_n 0, 1) := by decide +kernel
theorem dX6_keep_45 : decode cX6_keep 45 = .ok (.getfield 171, 3) := by decide +kernel
theorem dX6_keep_48 : decode cX6_keep 48 = .ok (.goto 4, 3) := by decide +kernel
theorem dX6_keep_51 : decode cX6_keep 51 = .ok (.iconst 0, 1) := by decide +kernel
theorem dX6_keep_52 : decode cX6_keep 52 = .ok (.iadd, 1) := by decide +kernel
theorem dX6_keep_53 : decode cX6_keep 53 = .ok (.putfield 115, 3) := by decide +kernel
theorem dX6_keep_56 : decode cX6_keep 56 = .ok (.aload_n 0, 1) := by decide +kernel
theorem dX6_keep_57 : decode cX6_keep 57 = .ok (.dup, 1) := by decide +kernel
theorem dX6_keep_58 : decode cX6_keep 58 = .ok (.getfield 118, 3) := by decide +kernel
theorem dX6_keep_61 : decode cX6_keep 61 = .ok (.aload_n 0, 1) := by decide +kernel
theorem dX6_keep_62 : decode cX6_keep 62 = .ok (.getfield 174, 3) := by decide +kernel
theorem dX6_keep_65 : decode cX6_keep 65 = .ok (.ifCond .eq 7, 3) := by decide +kernel
theorem dX6_keep_68 : decode cX6_keep 68 = .ok (.iconst 0, 1) := by decide +kernel
theorem dX6_keep_69 : decode cX6_keep 69 = .ok (.goto 7, 3) := by decide +kernel
theorem dX6_keep_72 : decode cX6_keep 72 = .ok (.aload_n 0, 1) := by decide +kernel
theorem dX6_keep_73 : decode cX6_keep 73 = .ok (.getfield 171, 3) := by decide +kernel
theorem dX6_keep_76 : decode cX6_keep 76 = .ok (.iadd, 1) := by decide +kernel
theorem dX6_keep_77 : decode cX6_keep 77 = .ok (.putfield 118, 3) := by decide +kernel
theorem dX6_keep_80 : decode cX6_keep 80 = .ok (.iconst 0, 1) := by decide +kernel
theorem dX6_keep_81 : decode cX6_keep 81 = .ok (.istore_n 1, 1) := by decide +kernel
theorem dX6_keep_82 : decode cX6_keep 82 = .ok (.iload_n 1, 1) := by decide +kernel
theorem dX6_keep_83 : decode cX6_keep 83 = .ok (.bipush 6, 2) := by decide +kernel
theorem dX6_keep_85 : decode cX6_keep 85 = .ok (.if_icmp .ge 21, 3) := by decide +kernel
theorem dX6_keep_88 : decode cX6_keep 88 = .ok (.aload_n 0, 1) := by decide +kernel
theorem dX6_keep_89 : decode cX6_keep 89 = .ok (.getfield 22, 3) := by decide +kernel
theorem dX6_keep_92 : decode cX6_keep 92 = .ok (.iload_n 1, 1) := by decide +kernel
theorem dX6_keep_93 : decode cX6_keep 93 = .ok (.aload_n 0, 1) := by decide +kernel
theorem dX6_keep_94 : decode cX6_keep 94 = .ok (.getfield 47, 3) := by decide +kernel
theorem dX6_keep_97 : decode cX6_keep 97 = .ok (.iload_n 1, 1) := by decide +kernel
theorem dX6_keep_98 : decode cX6_keep 98 = .ok (.iaload, 1) := by decide +kernel
theorem dX6_keep_99 : decode cX6_keep 99 = .ok (.iastore, 1) := by decide +kernel
theorem dX6_keep_100 : decode cX6_keep 100 = .ok (.iinc 1 1, 3) := by decide +kernel
theorem dX6_keep_103 : decode cX6_keep 103 = .ok (.goto (-21), 3) := by decide +kernel
theorem dX6_keep_106 : decode cX6_keep 106 = .ok (.return_, 1) := by decide +kernel
theorem dX6_goOn_0 : decode cX6_goOn 0 = .ok (.aload_n 0, 1) := by decide +kernel
theorem dX6_goOn_1 : decode cX6_goOn 1 = .ok (.invokevirtual 198, 3) := by decide +kernel
theorem dX6_goOn_4 : decode cX6_goOn 4 = .ok (.aload_n 0, 1) := by decide +kernel
theorem dX6_goOn_5 : decode cX6_goOn 5 = .ok (.iload_n 1, 1) := by decide +kernel
theorem dX6_goOn_6 : decode cX6_goOn 6 = .ok (.invokevirtual 201, 3) := by decide +kernel
theorem dX6_goOn_9 : decode cX6_goOn 9 = .ok (.ifCond .ne 6, 3) := by decide +kernel
theorem dX6_goOn_12 : decode cX6_goOn 12 = .ok (.bipush (-2), 2) := by decide +kernel
theorem dX6_goOn_14 : decode cX6_goOn 14 = .ok (.ireturn, 1) := by decide +kernel
theorem dX6_goOn_15 : decode cX6_goOn 15 = .ok (.aload_n 0, 1) := by decide +kernel
theorem dX6_goOn_16 : decode cX6_goOn 16 = .ok (.invokevirtual 204, 3) := by decide +kernel
theorem dX6_goOn_19 : decode cX6_goOn 19 = .ok (.aload_n 0, 1) := by decide +kernel
theorem dX6_goOn_20 : decode cX6_goOn 20 = .ok (.getfield 171, 3) := by decide +kernel
theorem dX6_goOn_23 : decode cX6_goOn 23 = .ok (.ireturn, 1) := by decide +kernel
theorem dX6_may_0 : decode cX6_may 0 = .ok (.iconst 0, 1) := by decide +kernel
theorem dX6_may_1 : decode cX6_may 1 = .ok (.istore_n 1, 1) := by decide +kernel
theorem dX6_may_2 : decode cX6_may 2 = .ok (.iconst 0, 1) := by decide +kernel
theorem dX6_may_3 : decode cX6_may 3 = .ok (.istore_n 2, 1) := by decide +kernel
theorem dX6_may_4 : decode cX6_may 4 = .ok (.iload_n 2, 1) := by decide +kernel
theorem dX6_may_5 : decode cX6_may 5 = .ok (.aload_n 0, 1) := by decide +kernel
theorem dX6_may_6 : decode cX6_may 6 = .ok (.getfield 72, 3) := by decide +kernel
theorem dX6_may_9 : decode cX6_may 9 = .ok (.if_icmp .ge 32, 3) := by decide +kernel
theorem dX6_may_12 : decode cX6_may 12 = .ok (.iload_n 1, 1) := by decide +kernel
theorem dX6_may_13 : decode cX6_may 13 = .ok (.aload_n 0, 1) := by decide +kernel
theorem dX6_may_14 : decode cX6_may 14 = .ok (.getfield 22, 3) := by decide +kernel
theorem dX6_may_17 : decode cX6_may 17 = .ok (.iload_n 2, 1) := by decide +kernel
theorem dX6_may_18 : decode cX6_may 18 = .ok (.iaload, 1) := by decide +kernel
theorem dX6_may_19 : decode cX6_may 19 = .ok (.aload_n 0, 1) := by decide +kernel
theorem dX6_may_20 : decode cX6_may 20 = .ok (.getfield 98, 3) := by decide +kernel
theorem dX6_may_23 : decode cX6_may 23 = .ok (.if_icmp .gt 9, 3) := by decide +kernel
theorem dX6_may_26 : decode cX6_may 26 = .ok (.iconst 1, 1) := by decide +kernel
theorem dX6_may_27 : decode cX6_may 27 = .ok (.iload_n 2, 1) := by decide +kernel
theorem dX6_may_28 : decode cX6_may 28 = .ok (.ishl, 1) := by decide +kernel
theorem dX6_may_29 : decode cX6_may 29 = .ok (.goto 4, 3) := by decide +kernel
theorem dX6_may_32 : decode cX6_may 32 = .ok (.iconst 0, 1) := by decide +kernel
theorem dX6_may_33 : decode cX6_may 33 = .ok (.ior, 1) := by decide +kernel
theorem dX6_may_34 : decode cX6_may 34 = .ok (.istore_n 1, 1) := by decide +kernel
theorem dX6_may_35 : decode cX6_may 35 = .ok (.iinc 2 1, 3) := by decide +kernel
theorem dX6_may_38 : decode cX6_may 38 = .ok (.goto (-34), 3) := by decide +kernel
theorem dX6_may_41 : decode cX6_may 41 = .ok (.iload_n 1, 1) := by decide +kernel
theorem dX6_may_42 : decode cX6_may 42 = .ok (.ireturn, 1) := by decide +kernel
theorem dX6_draw_0 : decode cX6_draw 0 = .ok (.iload_n 1, 1) := by decide +kernel
theorem dX6_draw_1 : decode cX6_draw 1 = .ok (.bipush 9, 2) := by decide +kernel
theorem dX6_draw_3 : decode cX6_draw 3 = .ok (.if_icmp .eq 13, 3) := by decide +kernel
theorem dX6_draw_6 : decode cX6_draw 6 = .ok (.aload_n 0, 1) := by decide +kernel
theorem dX6_draw_7 : decode cX6_draw 7 = .ok (.iload_n 1, 1) := by decide +kernel
theorem dX6_draw_8 : decode cX6_draw 8 = .ok (.invokevirtual 91, 3) := by decide +kernel
theorem dX6_draw_11 : decode cX6_draw 11 = .ok (.ifCond .ne 5, 3) := by decide +kernel
theorem dX6_draw_14 : decode cX6_draw 14 = .ok (.iconst (-1), 1) := by decide +kernel
theorem dX6_draw_15 : decode cX6_draw 15 = .ok (.ireturn, 1) := by decide +kernel
theorem dX6_draw_16 : decode cX6_draw 16 = .ok (.iload_n 1, 1) := by decide +kernel
theorem dX6_draw_17 : decode cX6_draw 17 = .ok (.bipush 9, 2) := by decide +kernel
theorem dX6_draw_19 : decode cX6_draw 19 = .ok (.if_icmp .eq 19, 3) := by decide +kernel
theorem dX6_draw_22 : decode cX6_draw 22 = .ok (.aload_n 0, 1) := by decide +kernel
theorem dX6_draw_23 : decode cX6_draw 23 = .ok (.getfield 22, 3) := by decide +kernel
theorem dX6_draw_26 : decode cX6_draw 26 = .ok (.iload_n 1, 1) := by decide +kernel
theorem dX6_draw_27 : decode cX6_draw 27 = .ok (.iaload, 1) := by decide +kernel
theorem dX6_draw_28 : decode cX6_draw 28 = .ok (.aload_n 0, 1) := by decide +kernel
theorem dX6_draw_29 : decode cX6_draw 29 = .ok (.getfield 98, 3) := by decide +kernel
theorem dX6_draw_32 : decode cX6_draw 32 = .ok (.if_icmp .le 6, 3) := by decide +kernel
theorem dX6_draw_35 : decode cX6_draw 35 = .ok (.bipush (-2), 2) := by decide +kernel
theorem dX6_draw_37 : decode cX6_draw 37 = .ok (.ireturn, 1) := by decide +kernel
theorem dX6_draw_38 : decode cX6_draw 38 = .ok (.aload_n 0, 1) := by decide +kernel
theorem dX6_draw_39 : decode cX6_draw 39 = .ok (.getfield 98, 3) := by decide +kernel
theorem dX6_draw_42 : decode cX6_draw 42 = .ok (.sipush 9999, 3) := by decide +kernel
theorem dX6_draw_45 : decode cX6_draw 45 = .ok (.if_icmp .ne 8, 3) := by decide +kernel
theorem dX6_draw_48 : decode cX6_draw 48 = .ok (.bipush (-3), 2) := by decide +kernel
theorem dX6_draw_50 : decode cX6_draw 50 = .ok (.goto 8, 3) := by decide +kernel
theorem dX6_draw_53 : decode cX6_draw 53 = .ok (.aload_n 0, 1) := by decide +kernel
theorem dX6_draw_54 : decode cX6_draw 54 = .ok (.iload_n 1, 1) := by decide +kernel
theorem dX6_draw_55 : decode cX6_draw 55 = .ok (.invokevirtual 207, 3) := by decide +kernel
theorem dX6_draw_58 : decode cX6_draw 58 = .ok (.ireturn, 1) := by decide +kernel
theorem dX6_pass_0 : decode cX6_pass 0 = .ok (.iload_n 1, 1) := by decide +kernel
theorem dX6_pass_1 : decode cX6_pass 1 = .ok (.i2l, 1) := by decide +kernel
theorem dX6_pass_2 : decode cX6_pass 2 = .ok (.lconst 1, 1) := by decide +kernel
theorem dX6_pass_3 : decode cX6_pass 3 = .ok (.ldc2_w 210, 3) := by decide +kernel
theorem dX6_pass_6 : decode cX6_pass 6 = .ok (.invokestatic 75, 3) := by decide +kernel
theorem dX6_pass_9 : decode cX6_pass 9 = .ok (.ifCond .ne 5, 3) := by decide +kernel
theorem dX6_pass_12 : decode cX6_pass 12 = .ok (.iconst (-1), 1) := by decide +kernel
theorem dX6_pass_13 : decode cX6_pass 13 = .ok (.ireturn, 1) := by decide +kernel
theorem dX6_pass_14 : decode cX6_pass 14 = .ok (.aload_n 0, 1) := by decide +kernel
theorem dX6_pass_15 : decode cX6_pass 15 = .ok (.getfield 98, 3) := by decide +kernel
theorem dX6_pass_18 : decode cX6_pass 18 = .ok (.iload_n 1, 1) := by decide +kernel
theorem dX6_pass_19 : decode cX6_pass 19 = .ok (.iadd, 1) := by decide +kernel
theorem dX6_pass_20 : decode cX6_pass 20 = .ok (.sipush 9999, 3) := by decide +kernel
theorem dX6_pass_23 : decode cX6_pass 23 = .ok (.if_icmp .le 6, 3) := by decide +kernel
theorem dX6_pass_26 : decode cX6_pass 26 = .ok (.bipush (-3), 2) := by decide +kernel
theorem dX6_pass_28 : decode cX6_pass 28 = .ok (.ireturn, 1) := by decide +kernel
theorem dX6_pass_29 : decode cX6_pass 29 = .ok (.iconst 0, 1) := by decide +kernel
theorem dX6_pass_30 : decode cX6_pass 30 = .ok (.istore_n 2, 1) := by decide +kernel
theorem dX6_pass_31 : decode cX6_pass 31 = .ok (.iload_n 2, 1) := by decide +kernel
theorem dX6_pass_32 : decode cX6_pass 32 = .ok (.iload_n 1, 1) := by decide +kernel
theorem dX6_pass_33 : decode cX6_pass 33 = .ok (.if_icmp .ge 16, 3) := by decide +kernel
theorem dX6_pass_36 : decode cX6_pass 36 = .ok (.aload_n 0, 1) := by decide +kernel
theorem dX6_pass_37 : decode cX6_pass 37 = .ok (.bipush 9, 2) := by decide +kernel
theorem dX6_pass_39 : decode cX6_pass 39 = .ok (.invokevirtual 207, 3) := by decide +kernel
theorem dX6_pass_42 : decode cX6_pass 42 = .ok (.pop, 1) := by decide +kernel
theorem dX6_pass_43 : decode cX6_pass 43 = .ok (.iinc 2 1, 3) := by decide +kernel
theorem dX6_pass_46 : decode cX6_pass 46 = .ok (.goto (-15), 3) := by decide +kernel
theorem dX6_pass_49 : decode cX6_pass 49 = .ok (.aload_n 0, 1) := by decide +kernel
theorem dX6_pass_50 : decode cX6_pass 50 = .ok (.getfield 98, 3) := by decide +kernel
theorem dX6_pass_53 : decode cX6_pass 53 = .ok (.ireturn, 1) := by decide +kernel
theorem dX6_run_0 : decode cX6_run 0 = .ok (.aload_n 0, 1) := by decide +kernel
theorem dX6_run_1 : decode cX6_run 1 = .ok (.getfield 98, 3) := by decide +kernel
theorem dX6_run_4 : decode cX6_run 4 = .ok (.aload_n 0, 1) := by decide +kernel
theorem dX6_run_5 : decode cX6_run 5 = .ok (.getfield 121, 3) := by decide +kernel
theorem dX6_run_8 : decode cX6_run 8 = .ok (.iadd, 1) := by decide +kernel
theorem dX6_run_9 : decode cX6_run 9 = .ok (.sipush 9999, 3) := by decide +kernel
theorem dX6_run_12 : decode cX6_run 12 = .ok (.if_icmp .le 6, 3) := by decide +kernel
theorem dX6_run_15 : decode cX6_run 15 = .ok (.bipush (-3), 2) := by decide +kernel
theorem dX6_run_17 : decode cX6_run 17 = .ok (.ireturn, 1) := by decide +kernel
theorem dX6_run_18 : decode cX6_run 18 = .ok (.iconst 0, 1) := by decide +kernel
theorem dX6_run_19 : decode cX6_run 19 = .ok (.istore_n 1, 1) := by decide +kernel
theorem dX6_run_20 : decode cX6_run 20 = .ok (.iload_n 1, 1) := by decide +kernel
theorem dX6_run_21 : decode cX6_run 21 = .ok (.aload_n 0, 1) := by decide +kernel
theorem dX6_run_22 : decode cX6_run 22 = .ok (.getfield 121, 3) := by decide +kernel
theorem dX6_run_25 : decode cX6_run 25 = .ok (.if_icmp .ge 22, 3) := by decide +kernel
theorem dX6_run_28 : decode cX6_run 28 = .ok (.aload_n 0, 1) := by decide +kernel
theorem dX6_run_29 : decode cX6_run 29 = .ok (.aload_n 0, 1) := by decide +kernel
theorem dX6_run_30 : decode cX6_run 30 = .ok (.getfield 35, 3) := by decide +kernel
theorem dX6_run_33 : decode cX6_run 33 = .ok (.iload_n 1, 1) := by decide +kernel
theorem dX6_run_34 : decode cX6_run 34 = .ok (.iaload, 1) := by decide +kernel
theorem dX6_run_35 : decode cX6_run 35 = .ok (.invokevirtual 207, 3) := by decide +kernel
theorem dX6_run_38 : decode cX6_run 38 = .ok (.ifCond .lt 9, 3) := by decide +kernel
theorem dX6_run_41 : decode cX6_run 41 = .ok (.iinc 1 1, 3) := by decide +kernel
theorem dX6_run_44 : decode cX6_run 44 = .ok (.goto (-24), 3) := by decide +kernel
theorem dX6_run_47 : decode cX6_run 47 = .ok (.iload_n 1, 1) := by decide +kernel
theorem dX6_run_48 : decode cX6_run 48 = .ok (.ireturn, 1) := by decide +kernel
theorem dX6_nextRow_0 : decode cX6_nextRow 0 = .ok (.iload_n 1, 1) := by decide +kernel
theorem dX6_nextRow_1 : decode cX6_nextRow 1 = .ok (.iconst 1, 1) := by decide +kernel
theorem dX6_nextRow_2 : decode cX6_nextRow 2 = .ok (.isub, 1) := by decide +kernel
theorem dX6_nextRow_3 : decode cX6_nextRow 3 = .ok (.istore_n 2, 1) := by decide +kernel
theorem dX6_nextRow_4 : decode cX6_nextRow 4 = .ok (.iload_n 2, 1) := by decide +kernel
theorem dX6_nextRow_5 : decode cX6_nextRow 5 = .ok (.ifCond .lt 41, 3) := by decide +kernel
theorem dX6_nextRow_8 : decode cX6_nextRow 8 = .ok (.aload_n 0, 1) := by decide +kernel
theorem dX6_nextRow_9 : decode cX6_nextRow 9 = .ok (.getfield 50, 3) := by decide +kernel
theorem dX6_nextRow_12 : decode cX6_nextRow 12 = .ok (.iload_n 2, 1) := by decide +kernel
theorem dX6_nextRow_13 : decode cX6_nextRow 13 = .ok (.dup2, 1) := by decide +kernel
theorem dX6_nextRow_14 : decode cX6_nextRow 14 = .ok (.iaload, 1) := by decide +kernel
theorem dX6_nextRow_15 : decode cX6_nextRow 15 = .ok (.iconst 1, 1) := by decide +kernel
theorem dX6_nextRow_16 : decode cX6_nextRow 16 = .ok (.iadd, 1) := by decide +kernel
theorem dX6_nextRow_17 : decode cX6_nextRow 17 = .ok (.iastore, 1) := by decide +kernel
theorem dX6_nextRow_18 : decode cX6_nextRow 18 = .ok (.aload_n 0, 1) := by decide +kernel
theorem dX6_nextRow_19 : decode cX6_nextRow 19 = .ok (.getfield 50, 3) := by decide +kernel
theorem dX6_nextRow_22 : decode cX6_nextRow 22 = .ok (.iload_n 2, 1) := by decide +kernel
theorem dX6_nextRow_23 : decode cX6_nextRow 23 = .ok (.iaload, 1) := by decide +kernel
theorem dX6_nextRow_24 : decode cX6_nextRow 24 = .ok (.aload_n 0, 1) := by decide +kernel
theorem dX6_nextRow_25 : decode cX6_nextRow 25 = .ok (.getfield 72, 3) := by decide +kernel
theorem dX6_nextRow_28 : decode cX6_nextRow 28 = .ok (.if_icmp .gt 5, 3) := by decide +kernel
theorem dX6_nextRow_31 : decode cX6_nextRow 31 = .ok (.iconst 1, 1) := by decide +kernel
theorem dX6_nextRow_32 : decode cX6_nextRow 32 = .ok (.ireturn, 1) := by decide +kernel
theorem dX6_nextRow_33 : decode cX6_nextRow 33 = .ok (.aload_n 0, 1) := by decide +kernel
theorem dX6_nextRow_34 : decode cX6_nextRow 34 = .ok (.getfield 50, 3) := by decide +kernel
theorem dX6_nextRow_37 : decode cX6_nextRow 37 = .ok (.iload_n 2, 1) := by decide +kernel
theorem dX6_nextRow_38 : decode cX6_nextRow 38 = .ok (.iconst 0, 1) := by decide +kernel
theorem dX6_nextRow_39 : decode cX6_nextRow 39 = .ok (.iastore, 1) := by decide +kernel
theorem dX6_nextRow_40 : decode cX6_nextRow 40 = .ok (.iinc 2 (-1), 3) := by decide +kernel
theorem dX6_nextRow_43 : decode cX6_nextRow 43 = .ok (.goto (-39), 3) := by decide +kernel
theorem dX6_nextRow_46 : decode cX6_nextRow 46 = .ok (.iconst 0, 1) := by decide +kernel
theorem dX6_nextRow_47 : decode cX6_nextRow 47 = .ok (.ireturn, 1) := by decide +kernel
theorem dX6_findMost_0 : decode cX6_findMost 0 = .ok (.iconst 0, 1) := by decide +kernel
theorem dX6_findMost_1 : decode cX6_findMost 1 = .ok (.istore_n 3, 1) := by decide +kernel
theorem dX6_findMost_2 : decode cX6_findMost 2 = .ok (.iload_n 3, 1) := by decide +kernel
theorem dX6_findMost_3 : decode cX6_findMost 3 = .ok (.iload_n 1, 1) := by decide +kernel
theorem dX6_findMost_4 : decode cX6_findMost 4 = .ok (.if_icmp .ge 16, 3) := by decide +kernel
theorem dX6_findMost_7 : decode cX6_findMost 7 = .ok (.aload_n 0, 1) := by decide +kernel
theorem dX6_findMost_8 : decode cX6_findMost 8 = .ok (.getfield 50, 3) := by decide +kernel
theorem dX6_findMost_11 : decode cX6_findMost 11 = .ok (.iload_n 3, 1) := by decide +kernel
theorem dX6_findMost_12 : decode cX6_findMost 12 = .ok (.iconst 0, 1) := by decide +kernel
theorem dX6_findMost_13 : decode cX6_findMost 13 = .ok (.iastore, 1) := by decide +kernel
theorem dX6_findMost_14 : decode cX6_findMost 14 = .ok (.iinc 3 1, 3) := by decide +kernel
theorem dX6_findMost_17 : decode cX6_findMost 17 = .ok (.goto (-15), 3) := by decide +kernel
theorem dX6_findMost_20 : decode cX6_findMost 20 = .ok (.iconst (-1), 1) := by decide +kernel
theorem dX6_findMost_21 : decode cX6_findMost 21 = .ok (.istore_n 3, 1) := by decide +kernel
theorem dX6_findMost_22 : decode cX6_findMost 22 = .ok (.iconst 1, 1) := by decide +kernel
theorem dX6_findMost_23 : decode cX6_findMost 23 = .ok (.istore 4, 2) := by decide +kernel
theorem dX6_findMost_25 : decode cX6_findMost 25 = .ok (.iload 4, 2) := by decide +kernel
theorem dX6_findMost_27 : decode cX6_findMost 27 = .ok (.ifCond .eq 167, 3) := by decide +kernel
theorem dX6_findMost_30 : decode cX6_findMost 30 = .ok (.aload_n 0, 1) := by decide +kernel
theorem dX6_findMost_31 : decode cX6_findMost 31 = .ok (.invokevirtual 198, 3) := by decide +kernel
theorem dX6_findMost_34 : decode cX6_findMost 34 = .ok (.aload_n 0, 1) := by decide +kernel
theorem dX6_findMost_35 : decode cX6_findMost 35 = .ok (.iload_n 2, 1) := by decide +kernel
theorem dX6_findMost_36 : decode cX6_findMost 36 = .ok (.putfield 159, 3) := by decide +kernel
theorem dX6_findMost_39 : decode cX6_findMost 39 = .ok (.iconst 0, 1) := by decide +kernel
theorem dX6_findMost_40 : decode cX6_findMost 40 = .ok (.istore 5, 2) := by decide +kernel
theorem dX6_findMost_42 : decode cX6_findMost 42 = .ok (.iconst 1, 1) := by decide +kernel
theorem dX6_findMost_43 : decode cX6_findMost 43 = .ok (.istore 6, 2) := by decide +kernel
theorem dX6_findMost_45 : decode cX6_findMost 45 = .ok (.iconst 0, 1) := by decide +kernel
theorem dX6_findMost_46 : decode cX6_findMost 46 = .ok (.istore 7, 2) := by decide +kernel
theorem dX6_findMost_48 : decode cX6_findMost 48 = .ok (.iload 7, 2) := by decide +kernel
theorem dX6_findMost_50 : decode cX6_findMost 50 = .ok (.iload_n 1, 1) := by decide +kernel
theorem dX6_findMost_51 : decode cX6_findMost 51 = .ok (.if_icmp .ge 71, 3) := by decide +kernel
theorem dX6_findMost_54 : decode cX6_findMost 54 = .ok (.iload 6, 2) := by decide +kernel
theorem dX6_findMost_56 : decode cX6_findMost 56 = .ok (.ifCond .eq 66, 3) := by decide +kernel
theorem dX6_findMost_59 : decode cX6_findMost 59 = .ok (.aload_n 0, 1) := by decide +kernel
theorem dX6_findMost_60 : decode cX6_findMost 60 = .ok (.aload_n 0, 1) := by decide +kernel
theorem dX6_findMost_61 : decode cX6_findMost 61 = .ok (.getfield 50, 3) := by decide +kernel
theorem dX6_findMost_64 : decode cX6_findMost 64 = .ok (.iload 7, 2) := by decide +kernel
theorem dX6_findMost_66 : decode cX6_findMost 66 = .ok (.iaload, 1) := by decide +kernel
theorem dX6_findMost_67 : decode cX6_findMost 67 = .ok (.aload_n 0, 1) := by decide +kernel
theorem dX6_findMost_68 : decode cX6_findMost 68 = .ok (.getfield 72, 3) := by decide +kernel
theorem dX6_findMost_71 : decode cX6_findMost 71 = .ok (.if_icmp .ne 8, 3) := by decide +kernel
theorem dX6_findMost_74 : decode cX6_findMost 74 = .ok (.bipush 9, 2) := by decide +kernel
theorem dX6_findMost_76 : decode cX6_findMost 76 = .ok (.goto 10, 3) := by decide +kernel
theorem dX6_findMost_79 : decode cX6_findMost 79 = .ok (.aload_n 0, 1) := by decide +kernel
theorem dX6_findMost_80 : decode cX6_findMost 80 = .ok (.getfield 50, 3) := by decide +kernel
theorem dX6_findMost_83 : decode cX6_findMost 83 = .ok (.iload 7, 2) := by decide +kernel
theorem dX6_findMost_85 : decode cX6_findMost 85 = .ok (.iaload, 1) := by decide +kernel
theorem dX6_findMost_86 : decode cX6_findMost 86 = .ok (.invokevirtual 201, 3) := by decide +kernel
theorem dX6_findMost_89 : decode cX6_findMost 89 = .ok (.istore 6, 2) := by decide +kernel
theorem dX6_findMost_91 : decode cX6_findMost 91 = .ok (.iload 5, 2) := by decide +kernel
theorem dX6_findMost_93 : decode cX6_findMost 93 = .ok (.iload 6, 2) := by decide +kernel
theorem dX6_findMost_95 : decode cX6_findMost 95 = .ok (.ifCond .eq 17, 3) := by decide +kernel
theorem dX6_findMost_98 : decode cX6_findMost 98 = .ok (.aload_n 0, 1) := by decide +kernel
theorem dX6_findMost_99 : decode cX6_findMost 99 = .ok (.getfield 174, 3) := by decide +kernel
theorem dX6_findMost_102 : decode cX6_findMost 102 = .ok (.ifCond .eq 10, 3) := by decide +kernel
theorem dX6_findMost_105 : decode cX6_findMost 105 = .ok (.aload_n 0, 1) := by decide +kernel
theorem dX6_findMost_106 : decode cX6_findMost 106 = .ok (.getfield 171, 3) := by decide +kernel
theorem dX6_findMost_109 : decode cX6_findMost 109 = .ok (.goto 4, 3) := by decide +kernel
theorem dX6_findMost_112 : decode cX6_findMost 112 = .ok (.iconst 0, 1) := by decide +kernel
theorem dX6_findMost_113 : decode cX6_findMost 113 = .ok (.iadd, 1) := by decide +kernel
theorem dX6_findMost_114 : decode cX6_findMost 114 = .ok (.istore 5, 2) := by decide +kernel
theorem dX6_findMost_116 : decode cX6_findMost 116 = .ok (.iinc 7 1, 3) := by decide +kernel
theorem dX6_findMost_119 : decode cX6_findMost 119 = .ok (.goto (-71), 3) := by decide +kernel
theorem dX6_findMost_122 : decode cX6_findMost 122 = .ok (.iload 6, 2) := by decide +kernel
theorem dX6_findMost_124 : decode cX6_findMost 124 = .ok (.ifCond .eq 60, 3) := by decide +kernel
theorem dX6_findMost_127 : decode cX6_findMost 127 = .ok (.iload 5, 2) := by decide +kernel
theorem dX6_findMost_129 : decode cX6_findMost 129 = .ok (.iload_n 3, 1) := by decide +kernel
theorem dX6_findMost_130 : decode cX6_findMost 130 = .ok (.if_icmp .le 54, 3) := by decide +kernel
theorem dX6_findMost_133 : decode cX6_findMost 133 = .ok (.iload 5, 2) := by decide +kernel
theorem dX6_findMost_135 : decode cX6_findMost 135 = .ok (.istore_n 3, 1) := by decide +kernel
theorem dX6_findMost_136 : decode cX6_findMost 136 = .ok (.iconst 0, 1) := by decide +kernel
theorem dX6_findMost_137 : decode cX6_findMost 137 = .ok (.istore 7, 2) := by decide +kernel
theorem dX6_findMost_139 : decode cX6_findMost 139 = .ok (.iload 7, 2) := by decide +kernel
theorem dX6_findMost_141 : decode cX6_findMost 141 = .ok (.iload_n 1, 1) := by decide +kernel
theorem dX6_findMost_142 : decode cX6_findMost 142 = .ok (.if_icmp .ge 42, 3) := by decide +kernel
theorem dX6_findMost_145 : decode cX6_findMost 145 = .ok (.aload_n 0, 1) := by decide +kernel
theorem dX6_findMost_146 : decode cX6_findMost 146 = .ok (.getfield 53, 3) := by decide +kernel
theorem dX6_findMost_149 : decode cX6_findMost 149 = .ok (.iload 7, 2) := by decide +kernel
theorem dX6_findMost_151 : decode cX6_findMost 151 = .ok (.aload_n 0, 1) := by decide +kernel
theorem dX6_findMost_152 : decode cX6_findMost 152 = .ok (.getfield 50, 3) := by decide +kernel
theorem dX6_findMost_155 : decode cX6_findMost 155 = .ok (.iload 7, 2) := by decide +kernel
theorem dX6_findMost_157 : decode cX6_findMost 157 = .ok (.iaload, 1) := by decide +kernel
theorem dX6_findMost_158 : decode cX6_findMost 158 = .ok (.aload_n 0, 1) := by decide +kernel
theorem dX6_findMost_159 : decode cX6_findMost 159 = .ok (.getfield 72, 3) := by decide +kernel
theorem dX6_findMost_162 : decode cX6_findMost 162 = .ok (.if_icmp .ne 8, 3) := by decide +kernel
theorem dX6_findMost_165 : decode cX6_findMost 165 = .ok (.bipush 9, 2) := by decide +kernel
theorem dX6_findMost_167 : decode cX6_findMost 167 = .ok (.goto 10, 3) := by decide +kernel
theorem dX6_findMost_170 : decode cX6_findMost 170 = .ok (.aload_n 0, 1) := by decide +kernel
theorem dX6_findMost_171 : decode cX6_findMost 171 = .ok (.getfield 50, 3) := by decide +kernel
theorem dX6_findMost_174 : decode cX6_findMost 174 = .ok (.iload 7, 2) := by decide +kernel
theorem dX6_findMost_176 : decode cX6_findMost 176 = .ok (.iaload, 1) := by decide +kernel
theorem dX6_findMost_177 : decode cX6_findMost 177 = .ok (.iastore, 1) := by decide +kernel
theorem dX6_findMost_178 : decode cX6_findMost 178 = .ok (.iinc 7 1, 3) := by decide +kernel
theorem dX6_findMost_181 : decode cX6_findMost 181 = .ok (.goto (-42), 3) := by decide +kernel
theorem dX6_findMost_184 : decode cX6_findMost 184 = .ok (.aload_n 0, 1) := by decide +kernel
theorem dX6_findMost_185 : decode cX6_findMost 185 = .ok (.iload_n 1, 1) := by decide +kernel
theorem dX6_findMost_186 : decode cX6_findMost 186 = .ok (.invokevirtual 212, 3) := by decide +kernel
theorem dX6_findMost_189 : decode cX6_findMost 189 = .ok (.istore 4, 2) := by decide +kernel
theorem dX6_findMost_191 : decode cX6_findMost 191 = .ok (.goto (-166), 3) := by decide +kernel
theorem dX6_findMost_194 : decode cX6_findMost 194 = .ok (.iload_n 3, 1) := by decide +kernel
theorem dX6_findMost_195 : decode cX6_findMost 195 = .ok (.ireturn, 1) := by decide +kernel
theorem dX6_most_0 : decode cX6_most 0 = .ok (.iload_n 1, 1) := by decide +kernel
theorem dX6_most_1 : decode cX6_most 1 = .ok (.i2l, 1) := by decide +kernel
theorem dX6_most_2 : decode cX6_most 2 = .ok (.lconst 1, 1) := by decide +kernel
theorem dX6_most_3 : decode cX6_most 3 = .ok (.ldc2_w 215, 3) := by decide +kernel
theorem dX6_most_6 : decode cX6_most 6 = .ok (.invokestatic 75, 3) := by decide +kernel
theorem dX6_most_9 : decode cX6_most 9 = .ok (.ifCond .eq 15, 3) := by decide +kernel
theorem dX6_most_12 : decode cX6_most 12 = .ok (.aload_n 0, 1) := by decide +kernel
theorem dX6_most_13 : decode cX6_most 13 = .ok (.iload_n 1, 1) := by decide +kernel
theorem dX6_most_14 : decode cX6_most 14 = .ok (.aload_n 0, 1) := by decide +kernel
theorem dX6_most_15 : decode cX6_most 15 = .ok (.getfield 112, 3) := by decide +kernel
theorem dX6_most_18 : decode cX6_most 18 = .ok (.invokevirtual 217, 3) := by decide +kernel
theorem dX6_most_21 : decode cX6_most 21 = .ok (.goto 4, 3) := by decide +kernel
theorem dX6_most_24 : decode cX6_most 24 = .ok (.iconst (-1), 1) := by decide +kernel
theorem dX6_most_25 : decode cX6_most 25 = .ok (.ireturn, 1) := by decide +kernel
theorem dX6_row_0 : decode cX6_row 0 = .ok (.iload_n 1, 1) := by decide +kernel
theorem dX6_row_1 : decode cX6_row 1 = .ok (.i2l, 1) := by decide +kernel
theorem dX6_row_2 : decode cX6_row 2 = .ok (.lconst 1, 1) := by decide +kernel
theorem dX6_row_3 : decode cX6_row 3 = .ok (.ldc2_w 215, 3) := by decide +kernel
theorem dX6_row_6 : decode cX6_row 6 = .ok (.invokestatic 75, 3) := by decide +kernel
theorem dX6_row_9 : decode cX6_row 9 = .ok (.ifCond .eq 16, 3) := by decide +kernel
theorem dX6_row_12 : decode cX6_row 12 = .ok (.iload_n 2, 1) := by decide +kernel
theorem dX6_row_13 : decode cX6_row 13 = .ok (.i2l, 1) := by decide +kernel
theorem dX6_row_14 : decode cX6_row 14 = .ok (.lconst 0, 1) := by decide +kernel
theorem dX6_row_15 : decode cX6_row 15 = .ok (.iload_n 1, 1) := by decide +kernel
theorem dX6_row_16 : decode cX6_row 16 = .ok (.iconst 1, 1) := by decide +kernel
theorem dX6_row_17 : decode cX6_row 17 = .ok (.isub, 1) := by decide +kernel
theorem dX6_row_18 : decode cX6_row 18 = .ok (.i2l, 1) := by decide +kernel
theorem dX6_row_19 : decode cX6_row 19 = .ok (.invokestatic 75, 3) := by decide +kernel
theorem dX6_row_22 : decode cX6_row 22 = .ok (.ifCond .ne 5, 3) := by decide +kernel
theorem dX6_row_25 : decode cX6_row 25 = .ok (.iconst (-1), 1) := by decide +kernel
theorem dX6_row_26 : decode cX6_row 26 = .ok (.ireturn, 1) := by decide +kernel
theorem dX6_row_27 : decode cX6_row 27 = .ok (.aload_n 0, 1) := by decide +kernel
theorem dX6_row_28 : decode cX6_row 28 = .ok (.iload_n 1, 1) := by decide +kernel
theorem dX6_row_29 : decode cX6_row 29 = .ok (.aload_n 0, 1) := by decide +kernel
theorem dX6_row_30 : decode cX6_row 30 = .ok (.getfield 112, 3) := by decide +kernel
theorem dX6_row_33 : decode cX6_row 33 = .ok (.invokevirtual 217, 3) := by decide +kernel
theorem dX6_row_36 : decode cX6_row 36 = .ok (.pop, 1) := by decide +kernel
theorem dX6_row_37 : decode cX6_row 37 = .ok (.aload_n 0, 1) := by decide +kernel
theorem dX6_row_38 : decode cX6_row 38 = .ok (.getfield 53, 3) := by decide +kernel
theorem dX6_row_41 : decode cX6_row 41 = .ok (.iload_n 2, 1) := by decide +kernel
theorem dX6_row_42 : decode cX6_row 42 = .ok (.iaload, 1) := by decide +kernel
theorem dX6_row_43 : decode cX6_row 43 = .ok (.ireturn, 1) := by decide +kernel
theorem dX6_fewest_0 : decode cX6_fewest 0 = .ok (.iload_n 1, 1) := by decide +kernel
theorem dX6_fewest_1 : decode cX6_fewest 1 = .ok (.i2l, 1) := by decide +kernel
theorem dX6_fewest_2 : decode cX6_fewest 2 = .ok (.lconst 0, 1) := by decide +kernel
theorem dX6_fewest_3 : decode cX6_fewest 3 = .ok (.ldc2_w 220, 3) := by decide +kernel
theorem dX6_fewest_6 : decode cX6_fewest 6 = .ok (.invokestatic 75, 3) := by decide +kernel
theorem dX6_fewest_9 : decode cX6_fewest 9 = .ok (.ifCond .ne 5, 3) := by decide +kernel
theorem dX6_fewest_12 : decode cX6_fewest 12 = .ok (.iconst (-1), 1) := by decide +kernel
theorem dX6_fewest_13 : decode cX6_fewest 13 = .ok (.ireturn, 1) := by decide +kernel
theorem dX6_fewest_14 : decode cX6_fewest 14 = .ok (.iload_n 1, 1) := by decide +kernel
theorem dX6_fewest_15 : decode cX6_fewest 15 = .ok (.ifCond .ne 5, 3) := by decide +kernel
theorem dX6_fewest_18 : decode cX6_fewest 18 = .ok (.iconst 0, 1) := by decide +kernel
theorem dX6_fewest_19 : decode cX6_fewest 19 = .ok (.ireturn, 1) := by decide +kernel
theorem dX6_fewest_20 : decode cX6_fewest 20 = .ok (.iconst 1, 1) := by decide +kernel
theorem dX6_fewest_21 : decode cX6_fewest 21 = .ok (.istore_n 2, 1) := by decide +kernel
theorem dX6_fewest_22 : decode cX6_fewest 22 = .ok (.iload_n 2, 1) := by decide +kernel
theorem dX6_fewest_23 : decode cX6_fewest 23 = .ok (.iconst 5, 1) := by decide +kernel
theorem dX6_fewest_24 : decode cX6_fewest 24 = .ok (.if_icmp .gt 24, 3) := by decide +kernel
theorem dX6_fewest_27 : decode cX6_fewest 27 = .ok (.aload_n 0, 1) := by decide +kernel
theorem dX6_fewest_28 : decode cX6_fewest 28 = .ok (.iload_n 2, 1) := by decide +kernel
theorem dX6_fewest_29 : decode cX6_fewest 29 = .ok (.aload_n 0, 1) := by decide +kernel
theorem dX6_fewest_30 : decode cX6_fewest 30 = .ok (.getfield 112, 3) := by decide +kernel
theorem dX6_fewest_33 : decode cX6_fewest 33 = .ok (.invokevirtual 217, 3) := by decide +kernel
theorem dX6_fewest_36 : decode cX6_fewest 36 = .ok (.iload_n 1, 1) := by decide +kernel
theorem dX6_fewest_37 : decode cX6_fewest 37 = .ok (.if_icmp .lt 5, 3) := by decide +kernel
theorem dX6_fewest_40 : decode cX6_fewest 40 = .ok (.iload_n 2, 1) := by decide +kernel
theorem dX6_fewest_41 : decode cX6_fewest 41 = .ok (.ireturn, 1) := by decide +kernel
theorem dX6_fewest_42 : decode cX6_fewest 42 = .ok (.iinc 2 1, 3) := by decide +kernel
theorem dX6_fewest_45 : decode cX6_fewest 45 = .ok (.goto (-23), 3) := by decide +kernel
theorem dX6_fewest_48 : decode cX6_fewest 48 = .ok (.bipush (-4), 2) := by decide +kernel
theorem dX6_fewest_50 : decode cX6_fewest 50 = .ok (.ireturn, 1) := by decide +kernel
theorem dX6_peace_0 : decode cX6_peace 0 = .ok (.aload_n 0, 1) := by decide +kernel
theorem dX6_peace_1 : decode cX6_peace 1 = .ok (.iconst 4, 1) := by decide +kernel
theorem dX6_peace_2 : decode cX6_peace 2 = .ok (.aload_n 0, 1) := by decide +kernel
theorem dX6_peace_3 : decode cX6_peace 3 = .ok (.getfield 112, 3) := by decide +kernel
theorem dX6_peace_6 : decode cX6_peace 6 = .ok (.invokevirtual 217, 3) := by decide +kernel
theorem dX6_peace_9 : decode cX6_peace 9 = .ok (.istore_n 1, 1) := by decide +kernel
theorem dX6_peace_10 : decode cX6_peace 10 = .ok (.bipush (-4), 2) := by decide +kernel
theorem dX6_peace_12 : decode cX6_peace 12 = .ok (.istore_n 2, 1) := by decide +kernel
theorem dX6_peace_13 : decode cX6_peace 13 = .ok (.iconst 0, 1) := by decide +kernel
theorem dX6_peace_14 : decode cX6_peace 14 = .ok (.istore_n 3, 1) := by decide +kernel
theorem dX6_peace_15 : decode cX6_peace 15 = .ok (.iload_n 3, 1) := by decide +kernel
theorem dX6_peace_16 : decode cX6_peace 16 = .ok (.aload_n 0, 1) := by decide +kernel
theorem dX6_peace_17 : decode cX6_peace 17 = .ok (.getfield 72, 3) := by decide +kernel
theorem dX6_peace_20 : decode cX6_peace 20 = .ok (.aload_n 0, 1) := by decide +kernel
theorem dX6_peace_21 : decode cX6_peace 21 = .ok (.getfield 72, 3) := by decide +kernel
theorem dX6_peace_24 : decode cX6_peace 24 = .ok (.imul, 1) := by decide +kernel
theorem dX6_peace_25 : decode cX6_peace 25 = .ok (.if_icmp .ge 108, 3) := by decide +kernel
theorem dX6_peace_28 : decode cX6_peace 28 = .ok (.iload_n 3, 1) := by decide +kernel
theorem dX6_peace_29 : decode cX6_peace 29 = .ok (.aload_n 0, 1) := by decide +kernel
theorem dX6_peace_30 : decode cX6_peace 30 = .ok (.getfield 72, 3) := by decide +kernel
theorem dX6_peace_33 : decode cX6_peace 33 = .ok (.idiv, 1) := by decide +kernel
theorem dX6_peace_34 : decode cX6_peace 34 = .ok (.istore 4, 2) := by decide +kernel
theorem dX6_peace_36 : decode cX6_peace 36 = .ok (.iload_n 3, 1) := by decide +kernel
theorem dX6_peace_37 : decode cX6_peace 37 = .ok (.aload_n 0, 1) := by decide +kernel
theorem dX6_peace_38 : decode cX6_peace 38 = .ok (.getfield 72, 3) := by decide +kernel
theorem dX6_peace_41 : decode cX6_peace 41 = .ok (.irem, 1) := by decide +kernel
theorem dX6_peace_42 : decode cX6_peace 42 = .ok (.istore 5, 2) := by decide +kernel
theorem dX6_peace_44 : decode cX6_peace 44 = .ok (.iload 4, 2) := by decide +kernel
theorem dX6_peace_46 : decode cX6_peace 46 = .ok (.iload 5, 2) := by decide +kernel
theorem dX6_peace_48 : decode cX6_peace 48 = .ok (.if_icmp .ge 79, 3) := by decide +kernel
theorem dX6_peace_51 : decode cX6_peace 51 = .ok (.aload_n 0, 1) := by decide +kernel
theorem dX6_peace_52 : decode cX6_peace 52 = .ok (.getfield 19, 3) := by decide +kernel
theorem dX6_peace_55 : decode cX6_peace 55 = .ok (.iload 4, 2) := by decide +kernel
theorem dX6_peace_57 : decode cX6_peace 57 = .ok (.iaload, 1) := by decide +kernel
theorem dX6_peace_58 : decode cX6_peace 58 = .ok (.iload 5, 2) := by decide +kernel
theorem dX6_peace_60 : decode cX6_peace 60 = .ok (.invokestatic 178, 3) := by decide +kernel
theorem dX6_peace_63 : decode cX6_peace 63 = .ok (.ifCond .eq 64, 3) := by decide +kernel
theorem dX6_peace_66 : decode cX6_peace 66 = .ok (.aload_n 0, 1) := by decide +kernel
theorem dX6_peace_67 : decode cX6_peace 67 = .ok (.iload 4, 2) := by decide +kernel
theorem dX6_peace_69 : decode cX6_peace 69 = .ok (.iload 5, 2) := by decide +kernel
theorem dX6_peace_71 : decode cX6_peace 71 = .ok (.iconst 0, 1) := by decide +kernel
theorem dX6_peace_72 : decode cX6_peace 72 = .ok (.invokevirtual 101, 3) := by decide +kernel
theorem dX6_peace_75 : decode cX6_peace 75 = .ok (.aload_n 0, 1) := by decide +kernel
theorem dX6_peace_76 : decode cX6_peace 76 = .ok (.iconst 4, 1) := by decide +kernel
theorem dX6_peace_77 : decode cX6_peace 77 = .ok (.aload_n 0, 1) := by decide +kernel
theorem dX6_peace_78 : decode cX6_peace 78 = .ok (.getfield 112, 3) := by decide +kernel
theorem dX6_peace_81 : decode cX6_peace 81 = .ok (.invokevirtual 217, 3) := by decide +kernel
theorem dX6_peace_84 : decode cX6_peace 84 = .ok (.istore 6, 2) := by decide +kernel
theorem dX6_peace_86 : decode cX6_peace 86 = .ok (.aload_n 0, 1) := by decide +kernel
theorem dX6_peace_87 : decode cX6_peace 87 = .ok (.iload 4, 2) := by decide +kernel
theorem dX6_peace_89 : decode cX6_peace 89 = .ok (.iload 5, 2) := by decide +kernel
theorem dX6_peace_91 : decode cX6_peace 91 = .ok (.iconst 1, 1) := by decide +kernel
theorem dX6_peace_92 : decode cX6_peace 92 = .ok (.invokevirtual 101, 3) := by decide +kernel
theorem dX6_peace_95 : decode cX6_peace 95 = .ok (.iload 6, 2) := by decide +kernel
theorem dX6_peace_97 : decode cX6_peace 97 = .ok (.iload_n 1, 1) := by decide +kernel
theorem dX6_peace_98 : decode cX6_peace 98 = .ok (.if_icmp .le 14, 3) := by decide +kernel
theorem dX6_peace_101 : decode cX6_peace 101 = .ok (.bipush 10, 2) := by decide +kernel
theorem dX6_peace_103 : decode cX6_peace 103 = .ok (.iload 4, 2) := by decide +kernel
theorem dX6_peace_105 : decode cX6_peace 105 = .ok (.imul, 1) := by decide +kernel
theorem dX6_peace_106 : decode cX6_peace 106 = .ok (.iload 5, 2) := by decide +kernel
theorem dX6_peace_108 : decode cX6_peace 108 = .ok (.iadd, 1) := by decide +kernel
theorem dX6_peace_109 : decode cX6_peace 109 = .ok (.goto 4, 3) := by decide +kernel
theorem dX6_peace_112 : decode cX6_peace 112 = .ok (.iload_n 2, 1) := by decide +kernel
theorem dX6_peace_113 : decode cX6_peace 113 = .ok (.istore_n 2, 1) := by decide +kernel
theorem dX6_peace_114 : decode cX6_peace 114 = .ok (.iload 6, 2) := by decide +kernel
theorem dX6_peace_116 : decode cX6_peace 116 = .ok (.iload_n 1, 1) := by decide +kernel
theorem dX6_peace_117 : decode cX6_peace 117 = .ok (.if_icmp .le 8, 3) := by decide +kernel
theorem dX6_peace_120 : decode cX6_peace 120 = .ok (.iload 6, 2) := by decide +kernel
theorem dX6_peace_122 : decode cX6_peace 122 = .ok (.goto 4, 3) := by decide +kernel
theorem dX6_peace_125 : decode cX6_peace 125 = .ok (.iload_n 1, 1) := by decide +kernel
theorem dX6_peace_126 : decode cX6_peace 126 = .ok (.istore_n 1, 1) := by decide +kernel
theorem dX6_peace_127 : decode cX6_peace 127 = .ok (.iinc 3 1, 3) := by decide +kernel
theorem dX6_peace_130 : decode cX6_peace 130 = .ok (.goto (-115), 3) := by decide +kernel
theorem dX6_peace_133 : decode cX6_peace 133 = .ok (.iload_n 2, 1) := by decide +kernel
theorem dX6_peace_134 : decode cX6_peace 134 = .ok (.ireturn, 1) := by decide +kernel
theorem dX6_other_0 : decode cX6_other 0 = .ok (.iload_n 1, 1) := by decide +kernel
theorem dX6_other_1 : decode cX6_other 1 = .ok (.i2l, 1) := by decide +kernel
theorem dX6_other_2 : decode cX6_other 2 = .ok (.lconst 1, 1) := by decide +kernel
theorem dX6_other_3 : decode cX6_other 3 = .ok (.ldc2_w 215, 3) := by decide +kernel
theorem dX6_other_6 : decode cX6_other 6 = .ok (.invokestatic 75, 3) := by decide +kernel
theorem dX6_other_9 : decode cX6_other 9 = .ok (.ifCond .eq 16, 3) := by decide +kernel
theorem dX6_other_12 : decode cX6_other 12 = .ok (.aload_n 0, 1) := by decide +kernel
theorem dX6_other_13 : decode cX6_other 13 = .ok (.iload_n 1, 1) := by decide +kernel
theorem dX6_other_14 : decode cX6_other 14 = .ok (.aload_n 0, 1) := by decide +kernel
theorem dX6_other_15 : decode cX6_other 15 = .ok (.getfield 112, 3) := by decide +kernel
theorem dX6_other_18 : decode cX6_other 18 = .ok (.ineg, 1) := by decide +kernel
theorem dX6_other_19 : decode cX6_other 19 = .ok (.invokevirtual 217, 3) := by decide +kernel
theorem dX6_other_22 : decode cX6_other 22 = .ok (.goto 4, 3) := by decide +kernel
theorem dX6_other_25 : decode cX6_other 25 = .ok (.iconst (-1), 1) := by decide +kernel
theorem dX6_other_26 : decode cX6_other 26 = .ok (.ireturn, 1) := by decide +kernel
theorem dX6_givesOf_0 : decode cX6_givesOf 0 = .ok (.aload_n 0, 1) := by decide +kernel
theorem dX6_givesOf_1 : decode cX6_givesOf 1 = .ok (.getfield 7, 3) := by decide +kernel
theorem dX6_givesOf_4 : decode cX6_givesOf 4 = .ok (.iload_n 1, 1) := by decide +kernel
theorem dX6_givesOf_5 : decode cX6_givesOf 5 = .ok (.iaload, 1) := by decide +kernel
theorem dX6_givesOf_6 : decode cX6_givesOf 6 = .ok (.iload_n 2, 1) := by decide +kernel
theorem dX6_givesOf_7 : decode cX6_givesOf 7 = .ok (.invokestatic 182, 3) := by decide +kernel
theorem dX6_givesOf_10 : decode cX6_givesOf 10 = .ok (.istore_n 3, 1) := by decide +kernel
theorem dX6_givesOf_11 : decode cX6_givesOf 11 = .ok (.iload_n 3, 1) := by decide +kernel
theorem dX6_givesOf_12 : decode cX6_givesOf 12 = .ok (.aload_n 0, 1) := by decide +kernel
theorem dX6_givesOf_13 : decode cX6_givesOf 13 = .ok (.getfield 25, 3) := by decide +kernel
theorem dX6_givesOf_16 : decode cX6_givesOf 16 = .ok (.if_icmp .ge 7, 3) := by decide +kernel
theorem dX6_givesOf_19 : decode cX6_givesOf 19 = .ok (.iload_n 3, 1) := by decide +kernel
theorem dX6_givesOf_20 : decode cX6_givesOf 20 = .ok (.goto 7, 3) := by decide +kernel
theorem dX6_givesOf_23 : decode cX6_givesOf 23 = .ok (.aload_n 0, 1) := by decide +kernel
theorem dX6_givesOf_24 : decode cX6_givesOf 24 = .ok (.getfield 25, 3) := by decide +kernel
theorem dX6_givesOf_27 : decode cX6_givesOf 27 = .ok (.aload_n 0, 1) := by decide +kernel
theorem dX6_givesOf_28 : decode cX6_givesOf 28 = .ok (.getfield 7, 3) := by decide +kernel
theorem dX6_givesOf_31 : decode cX6_givesOf 31 = .ok (.iload_n 1, 1) := by decide +kernel
theorem dX6_givesOf_32 : decode cX6_givesOf 32 = .ok (.iaload, 1) := by decide +kernel
theorem dX6_givesOf_33 : decode cX6_givesOf 33 = .ok (.iload_n 2, 1) := by decide +kernel
theorem dX6_givesOf_34 : decode cX6_givesOf 34 = .ok (.invokestatic 185, 3) := by decide +kernel
theorem dX6_givesOf_37 : decode cX6_givesOf 37 = .ok (.ifCond .eq 7, 3) := by decide +kernel
theorem dX6_givesOf_40 : decode cX6_givesOf 40 = .ok (.iconst 0, 1) := by decide +kernel
theorem dX6_givesOf_41 : decode cX6_givesOf 41 = .ok (.goto 5, 3) := by decide +kernel
theorem dX6_givesOf_44 : decode cX6_givesOf 44 = .ok (.bipush 10, 2) := by decide +kernel
theorem dX6_givesOf_46 : decode cX6_givesOf 46 = .ok (.iadd, 1) := by decide +kernel
theorem dX6_givesOf_47 : decode cX6_givesOf 47 = .ok (.ireturn, 1) := by decide +kernel
theorem dX6_gives_0 : decode cX6_gives 0 = .ok (.aload_n 0, 1) := by decide +kernel
theorem dX6_gives_1 : decode cX6_gives 1 = .ok (.iload_n 1, 1) := by decide +kernel
theorem dX6_gives_2 : decode cX6_gives 2 = .ok (.invokevirtual 91, 3) := by decide +kernel
theorem dX6_gives_5 : decode cX6_gives 5 = .ok (.ifCond .eq 19, 3) := by decide +kernel
theorem dX6_gives_8 : decode cX6_gives 8 = .ok (.iload_n 2, 1) := by decide +kernel
theorem dX6_gives_9 : decode cX6_gives 9 = .ok (.invokestatic 107, 3) := by decide +kernel
theorem dX6_gives_12 : decode cX6_gives 12 = .ok (.ifCond .eq 12, 3) := by decide +kernel
theorem dX6_gives_15 : decode cX6_gives 15 = .ok (.aload_n 0, 1) := by decide +kernel
theorem dX6_gives_16 : decode cX6_gives 16 = .ok (.iload_n 1, 1) := by decide +kernel
theorem dX6_gives_17 : decode cX6_gives 17 = .ok (.iload_n 2, 1) := by decide +kernel
theorem dX6_gives_18 : decode cX6_gives 18 = .ok (.invokevirtual 222, 3) := by decide +kernel
theorem dX6_gives_21 : decode cX6_gives 21 = .ok (.goto 4, 3) := by decide +kernel
theorem dX6_gives_24 : decode cX6_gives 24 = .ok (.iconst (-1), 1) := by decide +kernel
theorem dX6_gives_25 : decode cX6_gives 25 = .ok (.ireturn, 1) := by decide +kernel
theorem dX6_stranger_0 : decode cX6_stranger 0 = .ok (.iload_n 1, 1) := by decide +kernel
theorem dX6_stranger_1 : decode cX6_stranger 1 = .ok (.invokestatic 107, 3) := by decide +kernel
theorem dX6_stranger_4 : decode cX6_stranger 4 = .ok (.ifCond .eq 23, 3) := by decide +kernel
theorem dX6_stranger_7 : decode cX6_stranger 7 = .ok (.aload_n 0, 1) := by decide +kernel
theorem dX6_stranger_8 : decode cX6_stranger 8 = .ok (.iload_n 2, 1) := by decide +kernel
theorem dX6_stranger_9 : decode cX6_stranger 9 = .ok (.invokevirtual 91, 3) := by decide +kernel
theorem dX6_stranger_12 : decode cX6_stranger 12 = .ok (.ifCond .eq 15, 3) := by decide +kernel
theorem dX6_stranger_15 : decode cX6_stranger 15 = .ok (.iload_n 3, 1) := by decide +kernel
theorem dX6_stranger_16 : decode cX6_stranger 16 = .ok (.i2l, 1) := by decide +kernel
theorem dX6_stranger_17 : decode cX6_stranger 17 = .ok (.lconst 0, 1) := by decide +kernel
theorem dX6_stranger_18 : decode cX6_stranger 18 = .ok (.ldc2_w 81, 3) := by decide +kernel
theorem dX6_stranger_21 : decode cX6_stranger 21 = .ok (.invokestatic 75, 3) := by decide +kernel
theorem dX6_stranger_24 : decode cX6_stranger 24 = .ok (.ifCond .ne 5, 3) := by decide +kernel
theorem dX6_stranger_27 : decode cX6_stranger 27 = .ok (.iconst (-1), 1) := by decide +kernel
theorem dX6_stranger_28 : decode cX6_stranger 28 = .ok (.ireturn, 1) := by decide +kernel
theorem dX6_stranger_29 : decode cX6_stranger 29 = .ok (.iconst 0, 1) := by decide +kernel
theorem dX6_stranger_30 : decode cX6_stranger 30 = .ok (.istore 4, 2) := by decide +kernel
theorem dX6_stranger_32 : decode cX6_stranger 32 = .ok (.bipush (-3), 2) := by decide +kernel
theorem dX6_stranger_34 : decode cX6_stranger 34 = .ok (.istore 5, 2) := by decide +kernel
theorem dX6_stranger_36 : decode cX6_stranger 36 = .ok (.iload 5, 2) := by decide +kernel
theorem dX6_stranger_38 : decode cX6_stranger 38 = .ok (.iconst 4, 1) := by decide +kernel
theorem dX6_stranger_39 : decode cX6_stranger 39 = .ok (.if_icmp .ge 47, 3) := by decide +kernel
theorem dX6_stranger_42 : decode cX6_stranger 42 = .ok (.iload 4, 2) := by decide +kernel
theorem dX6_stranger_44 : decode cX6_stranger 44 = .ok (.aload_n 0, 1) := by decide +kernel
theorem dX6_stranger_45 : decode cX6_stranger 45 = .ok (.getfield 7, 3) := by decide +kernel
theorem dX6_stranger_48 : decode cX6_stranger 48 = .ok (.iload_n 2, 1) := by decide +kernel
theorem dX6_stranger_49 : decode cX6_stranger 49 = .ok (.iaload, 1) := by decide +kernel
theorem dX6_stranger_50 : decode cX6_stranger 50 = .ok (.iload_n 1, 1) := by decide +kernel
theorem dX6_stranger_51 : decode cX6_stranger 51 = .ok (.iload 5, 2) := by decide +kernel
theorem dX6_stranger_53 : decode cX6_stranger 53 = .ok (.iadd, 1) := by decide +kernel
theorem dX6_stranger_54 : decode cX6_stranger 54 = .ok (.invokestatic 192, 3) := by decide +kernel
theorem dX6_stranger_57 : decode cX6_stranger 57 = .ok (.invokestatic 195, 3) := by decide +kernel
theorem dX6_stranger_60 : decode cX6_stranger 60 = .ok (.invokestatic 182, 3) := by decide +kernel
theorem dX6_stranger_63 : decode cX6_stranger 63 = .ok (.iload_n 3, 1) := by decide +kernel
theorem dX6_stranger_64 : decode cX6_stranger 64 = .ok (.if_icmp .ne 12, 3) := by decide +kernel
theorem dX6_stranger_67 : decode cX6_stranger 67 = .ok (.iconst 1, 1) := by decide +kernel
theorem dX6_stranger_68 : decode cX6_stranger 68 = .ok (.iload 5, 2) := by decide +kernel
theorem dX6_stranger_70 : decode cX6_stranger 70 = .ok (.iconst 3, 1) := by decide +kernel
theorem dX6_stranger_71 : decode cX6_stranger 71 = .ok (.iadd, 1) := by decide +kernel
theorem dX6_stranger_72 : decode cX6_stranger 72 = .ok (.ishl, 1) := by decide +kernel
theorem dX6_stranger_73 : decode cX6_stranger 73 = .ok (.goto 4, 3) := by decide +kernel
theorem dX6_stranger_76 : decode cX6_stranger 76 = .ok (.iconst 0, 1) := by decide +kernel
theorem dX6_stranger_77 : decode cX6_stranger 77 = .ok (.ior, 1) := by decide +kernel
theorem dX6_stranger_78 : decode cX6_stranger 78 = .ok (.istore 4, 2) := by decide +kernel
theorem dX6_stranger_80 : decode cX6_stranger 80 = .ok (.iinc 5 1, 3) := by decide +kernel
theorem dX6_stranger_83 : decode cX6_stranger 83 = .ok (.goto (-47), 3) := by decide +kernel
theorem dX6_stranger_86 : decode cX6_stranger 86 = .ok (.iload 4, 2) := by decide +kernel
theorem dX6_stranger_88 : decode cX6_stranger 88 = .ok (.ireturn, 1) := by decide +kernel
theorem dX6_liar_0 : decode cX6_liar 0 = .ok (.aload_n 0, 1) := by decide +kernel
theorem dX6_liar_1 : decode cX6_liar 1 = .ok (.iload_n 1, 1) := by decide +kernel
theorem dX6_liar_2 : decode cX6_liar 2 = .ok (.invokevirtual 91, 3) := by decide +kernel
theorem dX6_liar_5 : decode cX6_liar 5 = .ok (.ifCond .eq 58, 3) := by decide +kernel
theorem dX6_liar_8 : decode cX6_liar 8 = .ok (.iload_n 2, 1) := by decide +kernel
theorem dX6_liar_9 : decode cX6_liar 9 = .ok (.invokestatic 107, 3) := by decide +kernel
theorem dX6_liar_12 : decode cX6_liar 12 = .ok (.ifCond .eq 51, 3) := by decide +kernel
theorem dX6_liar_15 : decode cX6_liar 15 = .ok (.iload_n 3, 1) := by decide +kernel
theorem dX6_liar_16 : decode cX6_liar 16 = .ok (.i2l, 1) := by decide +kernel
theorem dX6_liar_17 : decode cX6_liar 17 = .ok (.lconst 0, 1) := by decide +kernel
theorem dX6_liar_18 : decode cX6_liar 18 = .ok (.ldc2_w 81, 3) := by decide +kernel
theorem dX6_liar_21 : decode cX6_liar 21 = .ok (.invokestatic 75, 3) := by decide +kernel
theorem dX6_liar_24 : decode cX6_liar 24 = .ok (.ifCond .eq 39, 3) := by decide +kernel
theorem dX6_liar_27 : decode cX6_liar 27 = .ok (.aload_n 0, 1) := by decide +kernel
theorem dX6_liar_28 : decode cX6_liar 28 = .ok (.iload 4, 2) := by decide +kernel
theorem dX6_liar_30 : decode cX6_liar 30 = .ok (.invokevirtual 91, 3) := by decide +kernel
theorem dX6_liar_33 : decode cX6_liar 33 = .ok (.ifCond .eq 30, 3) := by decide +kernel
theorem dX6_liar_36 : decode cX6_liar 36 = .ok (.iload 5, 2) := by decide +kernel
theorem dX6_liar_38 : decode cX6_liar 38 = .ok (.invokestatic 107, 3) := by decide +kernel
theorem dX6_liar_41 : decode cX6_liar 41 = .ok (.ifCond .eq 22, 3) := by decide +kernel
theorem dX6_liar_44 : decode cX6_liar 44 = .ok (.iload 6, 2) := by decide +kernel
theorem dX6_liar_46 : decode cX6_liar 46 = .ok (.i2l, 1) := by decide +kernel
theorem dX6_liar_47 : decode cX6_liar 47 = .ok (.lconst 0, 1) := by decide +kernel
theorem dX6_liar_48 : decode cX6_liar 48 = .ok (.ldc2_w 81, 3) := by decide +kernel
theorem dX6_liar_51 : decode cX6_liar 51 = .ok (.invokestatic 75, 3) := by decide +kernel
theorem dX6_liar_54 : decode cX6_liar 54 = .ok (.ifCond .eq 9, 3) := by decide +kernel
theorem dX6_liar_57 : decode cX6_liar 57 = .ok (.iload_n 1, 1) := by decide +kernel
theorem dX6_liar_58 : decode cX6_liar 58 = .ok (.iload 4, 2) := by decide +kernel
theorem dX6_liar_60 : decode cX6_liar 60 = .ok (.if_icmp .ne 5, 3) := by decide +kernel
theorem dX6_liar_63 : decode cX6_liar 63 = .ok (.iconst (-1), 1) := by decide +kernel
theorem dX6_liar_64 : decode cX6_liar 64 = .ok (.ireturn, 1) := by decide +kernel
theorem dX6_liar_65 : decode cX6_liar 65 = .ok (.aload_n 0, 1) := by decide +kernel
theorem dX6_liar_66 : decode cX6_liar 66 = .ok (.getfield 7, 3) := by decide +kernel
theorem dX6_liar_69 : decode cX6_liar 69 = .ok (.iload_n 1, 1) := by decide +kernel
theorem dX6_liar_70 : decode cX6_liar 70 = .ok (.iaload, 1) := by decide +kernel
theorem dX6_liar_71 : decode cX6_liar 71 = .ok (.iload_n 2, 1) := by decide +kernel
theorem dX6_liar_72 : decode cX6_liar 72 = .ok (.invokestatic 182, 3) := by decide +kernel
theorem dX6_liar_75 : decode cX6_liar 75 = .ok (.iload_n 3, 1) := by decide +kernel
theorem dX6_liar_76 : decode cX6_liar 76 = .ok (.if_icmp .ne 7, 3) := by decide +kernel
theorem dX6_liar_79 : decode cX6_liar 79 = .ok (.iconst 0, 1) := by decide +kernel
theorem dX6_liar_80 : decode cX6_liar 80 = .ok (.goto 4, 3) := by decide +kernel
theorem dX6_liar_83 : decode cX6_liar 83 = .ok (.iconst 1, 1) := by decide +kernel
theorem dX6_liar_84 : decode cX6_liar 84 = .ok (.aload_n 0, 1) := by decide +kernel
theorem dX6_liar_85 : decode cX6_liar 85 = .ok (.getfield 7, 3) := by decide +kernel
theorem dX6_liar_88 : decode cX6_liar 88 = .ok (.iload 4, 2) := by decide +kernel
theorem dX6_liar_90 : decode cX6_liar 90 = .ok (.iaload, 1) := by decide +kernel
theorem dX6_liar_91 : decode cX6_liar 91 = .ok (.iload 5, 2) := by decide +kernel
theorem dX6_liar_93 : decode cX6_liar 93 = .ok (.invokestatic 182, 3) := by decide +kernel
theorem dX6_liar_96 : decode cX6_liar 96 = .ok (.iload 6, 2) := by decide +kernel
theorem dX6_liar_98 : decode cX6_liar 98 = .ok (.if_icmp .ne 7, 3) := by decide +kernel
theorem dX6_liar_101 : decode cX6_liar 101 = .ok (.iconst 0, 1) := by decide +kernel
theorem dX6_liar_102 : decode cX6_liar 102 = .ok (.goto 4, 3) := by decide +kernel
theorem dX6_liar_105 : decode cX6_liar 105 = .ok (.iconst 2, 1) := by decide +kernel
theorem dX6_liar_106 : decode cX6_liar 106 = .ok (.iadd, 1) := by decide +kernel
theorem dX6_liar_107 : decode cX6_liar 107 = .ok (.ireturn, 1) := by decide +kernel
theorem dX6_drawn_0 : decode cX6_drawn 0 = .ok (.iload_n 1, 1) := by decide +kernel
theorem dX6_drawn_1 : decode cX6_drawn 1 = .ok (.i2l, 1) := by decide +kernel
theorem dX6_drawn_2 : decode cX6_drawn 2 = .ok (.lconst 1, 1) := by decide +kernel
theorem dX6_drawn_3 : decode cX6_drawn 3 = .ok (.ldc2_w 210, 3) := by decide +kernel
theorem dX6_drawn_6 : decode cX6_drawn 6 = .ok (.invokestatic 75, 3) := by decide +kernel
theorem dX6_drawn_9 : decode cX6_drawn 9 = .ok (.ifCond .ne 5, 3) := by decide +kernel
theorem dX6_drawn_12 : decode cX6_drawn 12 = .ok (.iconst (-1), 1) := by decide +kernel
theorem dX6_drawn_13 : decode cX6_drawn 13 = .ok (.ireturn, 1) := by decide +kernel
theorem dX6_drawn_14 : decode cX6_drawn 14 = .ok (.aload_n 0, 1) := by decide +kernel
theorem dX6_drawn_15 : decode cX6_drawn 15 = .ok (.getfield 98, 3) := by decide +kernel
theorem dX6_drawn_18 : decode cX6_drawn 18 = .ok (.iload_n 1, 1) := by decide +kernel
theorem dX6_drawn_19 : decode cX6_drawn 19 = .ok (.iadd, 1) := by decide +kernel
theorem dX6_drawn_20 : decode cX6_drawn 20 = .ok (.sipush 9999, 3) := by decide +kernel
theorem dX6_drawn_23 : decode cX6_drawn 23 = .ok (.if_icmp .le 6, 3) := by decide +kernel
theorem dX6_drawn_26 : decode cX6_drawn 26 = .ok (.bipush (-3), 2) := by decide +kernel
theorem dX6_drawn_28 : decode cX6_drawn 28 = .ok (.ireturn, 1) := by decide +kernel
theorem dX6_drawn_29 : decode cX6_drawn 29 = .ok (.iconst 0, 1) := by decide +kernel
theorem dX6_drawn_30 : decode cX6_drawn 30 = .ok (.istore_n 2, 1) := by decide +kernel
theorem dX6_drawn_31 : decode cX6_drawn 31 = .ok (.iconst 0, 1) := by decide +kernel
theorem dX6_drawn_32 : decode cX6_drawn 32 = .ok (.istore_n 3, 1) := by decide +kernel
theorem dX6_drawn_33 : decode cX6_drawn 33 = .ok (.iload_n 3, 1) := by decide +kernel
theorem dX6_drawn_34 : decode cX6_drawn 34 = .ok (.iload_n 1, 1) := by decide +kernel
theorem dX6_drawn_35 : decode cX6_drawn 35 = .ok (.if_icmp .ge 84, 3) := by decide +kernel
theorem dX6_drawn_38 : decode cX6_drawn 38 = .ok (.aload_n 0, 1) := by decide +kernel
theorem dX6_drawn_39 : decode cX6_drawn 39 = .ok (.aload_n 0, 1) := by decide +kernel
theorem dX6_drawn_40 : decode cX6_drawn 40 = .ok (.getfield 38, 3) := by decide +kernel
theorem dX6_drawn_43 : decode cX6_drawn 43 = .ok (.i2l, 1) := by decide +kernel
theorem dX6_drawn_44 : decode cX6_drawn 44 = .ok (.ldc2_w 225, 3) := by decide +kernel
theorem dX6_drawn_47 : decode cX6_drawn 47 = .ok (.lmul, 1) := by decide +kernel
theorem dX6_drawn_48 : decode cX6_drawn 48 = .ok (.ldc2_w 227, 3) := by decide +kernel
theorem dX6_drawn_51 : decode cX6_drawn 51 = .ok (.ladd, 1) := by decide +kernel
theorem dX6_drawn_52 : decode cX6_drawn 52 = .ok (.ldc2_w 229, 3) := by decide +kernel
theorem dX6_drawn_55 : decode cX6_drawn 55 = .ok (.land, 1) := by decide +kernel
theorem dX6_drawn_56 : decode cX6_drawn 56 = .ok (.l2i, 1) := by decide +kernel
theorem dX6_drawn_57 : decode cX6_drawn 57 = .ok (.putfield 38, 3) := by decide +kernel
theorem dX6_drawn_60 : decode cX6_drawn 60 = .ok (.aload_n 0, 1) := by decide +kernel
theorem dX6_drawn_61 : decode cX6_drawn 61 = .ok (.getfield 38, 3) := by decide +kernel
theorem dX6_drawn_64 : decode cX6_drawn 64 = .ok (.ldc 231, 2) := by decide +kernel
theorem dX6_drawn_66 : decode cX6_drawn 66 = .ok (.idiv, 1) := by decide +kernel
theorem dX6_drawn_67 : decode cX6_drawn 67 = .ok (.aload_n 0, 1) := by decide +kernel
theorem dX6_drawn_68 : decode cX6_drawn 68 = .ok (.getfield 72, 3) := by decide +kernel
theorem dX6_drawn_71 : decode cX6_drawn 71 = .ok (.iconst 1, 1) := by decide +kernel
theorem dX6_drawn_72 : decode cX6_drawn 72 = .ok (.iadd, 1) := by decide +kernel
theorem dX6_drawn_73 : decode cX6_drawn 73 = .ok (.irem, 1) := by decide +kernel
theorem dX6_drawn_74 : decode cX6_drawn 74 = .ok (.istore 4, 2) := by decide +kernel
theorem dX6_drawn_76 : decode cX6_drawn 76 = .ok (.iload_n 2, 1) := by decide +kernel
theorem dX6_drawn_77 : decode cX6_drawn 77 = .ok (.aload_n 0, 1) := by decide +kernel
theorem dX6_drawn_78 : decode cX6_drawn 78 = .ok (.iload 4, 2) := by decide +kernel
theorem dX6_drawn_80 : decode cX6_drawn 80 = .ok (.aload_n 0, 1) := by decide +kernel
theorem dX6_drawn_81 : decode cX6_drawn 81 = .ok (.getfield 72, 3) := by decide +kernel
theorem dX6_drawn_84 : decode cX6_drawn 84 = .ok (.if_icmp .ge 22, 3) := by decide +kernel
theorem dX6_drawn_87 : decode cX6_drawn 87 = .ok (.aload_n 0, 1) := by decide +kernel
theorem dX6_drawn_88 : decode cX6_drawn 88 = .ok (.getfield 22, 3) := by decide +kernel
theorem dX6_drawn_91 : decode cX6_drawn 91 = .ok (.iload 4, 2) := by decide +kernel
theorem dX6_drawn_93 : decode cX6_drawn 93 = .ok (.iaload, 1) := by decide +kernel
theorem dX6_drawn_94 : decode cX6_drawn 94 = .ok (.aload_n 0, 1) := by decide +kernel
theorem dX6_drawn_95 : decode cX6_drawn 95 = .ok (.getfield 98, 3) := by decide +kernel
theorem dX6_drawn_98 : decode cX6_drawn 98 = .ok (.if_icmp .gt 8, 3) := by decide +kernel
theorem dX6_drawn_101 : decode cX6_drawn 101 = .ok (.iload 4, 2) := by decide +kernel
theorem dX6_drawn_103 : decode cX6_drawn 103 = .ok (.goto 5, 3) := by decide +kernel
theorem dX6_drawn_106 : decode cX6_drawn 106 = .ok (.bipush 9, 2) := by decide +kernel
theorem dX6_drawn_108 : decode cX6_drawn 108 = .ok (.invokevirtual 207, 3) := by decide +kernel
theorem dX6_drawn_111 : decode cX6_drawn 111 = .ok (.iadd, 1) := by decide +kernel
theorem dX6_drawn_112 : decode cX6_drawn 112 = .ok (.istore_n 2, 1) := by decide +kernel
theorem dX6_drawn_113 : decode cX6_drawn 113 = .ok (.iinc 3 1, 3) := by decide +kernel
theorem dX6_drawn_116 : decode cX6_drawn 116 = .ok (.goto (-83), 3) := by decide +kernel
theorem dX6_drawn_119 : decode cX6_drawn 119 = .ok (.iload_n 2, 1) := by decide +kernel
theorem dX6_drawn_120 : decode cX6_drawn 120 = .ok (.ireturn, 1) := by decide +kernel
theorem dX6_seed_0 : decode cX6_seed 0 = .ok (.iload_n 1, 1) := by decide +kernel
theorem dX6_seed_1 : decode cX6_seed 1 = .ok (.ifCond .ge 5, 3) := by decide +kernel
theorem dX6_seed_4 : decode cX6_seed 4 = .ok (.iconst (-1), 1) := by decide +kernel
theorem dX6_seed_5 : decode cX6_seed 5 = .ok (.ireturn, 1) := by decide +kernel
theorem dX6_seed_6 : decode cX6_seed 6 = .ok (.aload_n 0, 1) := by decide +kernel
theorem dX6_seed_7 : decode cX6_seed 7 = .ok (.getfield 38, 3) := by decide +kernel
theorem dX6_seed_10 : decode cX6_seed 10 = .ok (.istore_n 2, 1) := by decide +kernel
theorem dX6_seed_11 : decode cX6_seed 11 = .ok (.aload_n 0, 1) := by decide +kernel
theorem dX6_seed_12 : decode cX6_seed 12 = .ok (.iload_n 1, 1) := by decide +kernel
theorem dX6_seed_13 : decode cX6_seed 13 = .ok (.putfield 38, 3) := by decide +kernel
theorem dX6_seed_16 : decode cX6_seed 16 = .ok (.iload_n 2, 1) := by decide +kernel
theorem dX6_seed_17 : decode cX6_seed 17 = .ok (.ireturn, 1) := by decide +kernel
theorem dX6_carried_0 : decode cX6_carried 0 = .ok (.iload_n 1, 1) := by decide +kernel
theorem dX6_carried_1 : decode cX6_carried 1 = .ok (.bipush 30, 2) := by decide +kernel
theorem dX6_carried_3 : decode cX6_carried 3 = .ok (.if_icmp .ge 225, 3) := by decide +kernel
theorem dX6_carried_6 : decode cX6_carried 6 = .ok (.iload_n 1, 1) := by decide +kernel
theorem dX6_carried_7 : decode cX6_carried 7 = .ok (.bipush 6, 2) := by decide +kernel
theorem dX6_carried_9 : decode cX6_carried 9 = .ok (.irem, 1) := by decide +kernel
theorem dX6_carried_10 : decode cX6_carried 10 = .ok (.istore 4, 2) := by decide +kernel
theorem dX6_carried_12 : decode cX6_carried 12 = .ok (.iload_n 1, 1) := by decide +kernel
theorem dX6_carried_13 : decode cX6_carried 13 = .ok (.bipush 6, 2) := by decide +kernel
theorem dX6_carried_15 : decode cX6_carried 15 = .ok (.idiv, 1) := by decide +kernel
theorem dX6_carried_16 : decode cX6_carried 16 = .ok (.istore 5, 2) := by decide +kernel
theorem dX6_carried_18 : decode cX6_carried 18 = .ok (.aload_n 0, 1) := by decide +kernel
theorem dX6_carried_19 : decode cX6_carried 19 = .ok (.getfield 7, 3) := by decide +kernel
theorem dX6_carried_22 : decode cX6_carried 22 = .ok (.iload 4, 2) := by decide +kernel
theorem dX6_carried_24 : decode cX6_carried 24 = .ok (.iload_n 3, 1) := by decide +kernel
theorem dX6_carried_25 : decode cX6_carried 25 = .ok (.ifCond .eq 12, 3) := by decide +kernel
theorem dX6_carried_28 : decode cX6_carried 28 = .ok (.iload 5, 2) := by decide +kernel
theorem dX6_carried_30 : decode cX6_carried 30 = .ok (.ifCond .ne 7, 3) := by decide +kernel
theorem dX6_carried_33 : decode cX6_carried 33 = .ok (.iload_n 2, 1) := by decide +kernel
theorem dX6_carried_34 : decode cX6_carried 34 = .ok (.goto 10, 3) := by decide +kernel
theorem dX6_carried_37 : decode cX6_carried 37 = .ok (.aload_n 0, 1) := by decide +kernel
theorem dX6_carried_38 : decode cX6_carried 38 = .ok (.getfield 7, 3) := by decide +kernel
theorem dX6_carried_41 : decode cX6_carried 41 = .ok (.iload 4, 2) := by decide +kernel
theorem dX6_carried_43 : decode cX6_carried 43 = .ok (.iaload, 1) := by decide +kernel
theorem dX6_carried_44 : decode cX6_carried 44 = .ok (.iastore, 1) := by decide +kernel
theorem dX6_carried_45 : decode cX6_carried 45 = .ok (.aload_n 0, 1) := by decide +kernel
theorem dX6_carried_46 : decode cX6_carried 46 = .ok (.getfield 13, 3) := by decide +kernel
theorem dX6_carried_49 : decode cX6_carried 49 = .ok (.iload 4, 2) := by decide +kernel
theorem dX6_carried_51 : decode cX6_carried 51 = .ok (.iload_n 3, 1) := by decide +kernel
theorem dX6_carried_52 : decode cX6_carried 52 = .ok (.ifCond .eq 13, 3) := by decide +kernel
theorem dX6_carried_55 : decode cX6_carried 55 = .ok (.iload 5, 2) := by decide +kernel
theorem dX6_carried_57 : decode cX6_carried 57 = .ok (.iconst 1, 1) := by decide +kernel
theorem dX6_carried_58 : decode cX6_carried 58 = .ok (.if_icmp .ne 7, 3) := by decide +kernel
theorem dX6_carried_61 : decode cX6_carried 61 = .ok (.iload_n 2, 1) := by decide +kernel
theorem dX6_carried_62 : decode cX6_carried 62 = .ok (.goto 10, 3) := by decide +kernel
theorem dX6_carried_65 : decode cX6_carried 65 = .ok (.aload_n 0, 1) := by decide +kernel
theorem dX6_carried_66 : decode cX6_carried 66 = .ok (.getfield 13, 3) := by decide +kernel
theorem dX6_carried_69 : decode cX6_carried 69 = .ok (.iload 4, 2) := by decide +kernel
theorem dX6_carried_71 : decode cX6_carried 71 = .ok (.iaload, 1) := by decide +kernel
theorem dX6_carried_72 : decode cX6_carried 72 = .ok (.iastore, 1) := by decide +kernel
theorem dX6_carried_73 : decode cX6_carried 73 = .ok (.aload_n 0, 1) := by decide +kernel
theorem dX6_carried_74 : decode cX6_carried 74 = .ok (.getfield 16, 3) := by decide +kernel
theorem dX6_carried_77 : decode cX6_carried 77 = .ok (.iload 4, 2) := by decide +kernel
theorem dX6_carried_79 : decode cX6_carried 79 = .ok (.iload_n 3, 1) := by decide +kernel
theorem dX6_carried_80 : decode cX6_carried 80 = .ok (.ifCond .eq 13, 3) := by decide +kernel
theorem dX6_carried_83 : decode cX6_carried 83 = .ok (.iload 5, 2) := by decide +kernel
theorem dX6_carried_85 : decode cX6_carried 85 = .ok (.iconst 2, 1) := by decide +kernel
theorem dX6_carried_86 : decode cX6_carried 86 = .ok (.if_icmp .ne 7, 3) := by decide +kernel
theorem dX6_carried_89 : decode cX6_carried 89 = .ok (.iload_n 2, 1) := by decide +kernel
theorem dX6_carried_90 : decode cX6_carried 90 = .ok (.goto 10, 3) := by decide +kernel
theorem dX6_carried_93 : decode cX6_carried 93 = .ok (.aload_n 0, 1) := by decide +kernel
theorem dX6_carried_94 : decode cX6_carried 94 = .ok (.getfield 16, 3) := by decide +kernel
theorem dX6_carried_97 : decode cX6_carried 97 = .ok (.iload 4, 2) := by decide +kernel
theorem dX6_carried_99 : decode cX6_carried 99 = .ok (.iaload, 1) := by decide +kernel
theorem dX6_carried_100 : decode cX6_carried 100 = .ok (.iastore, 1) := by decide +kernel
theorem dX6_carried_101 : decode cX6_carried 101 = .ok (.aload_n 0, 1) := by decide +kernel
theorem dX6_carried_102 : decode cX6_carried 102 = .ok (.getfield 19, 3) := by decide +kernel
theorem dX6_carried_105 : decode cX6_carried 105 = .ok (.iload 4, 2) := by decide +kernel
theorem dX6_carried_107 : decode cX6_carried 107 = .ok (.iload_n 3, 1) := by decide +kernel
theorem dX6_carried_108 : decode cX6_carried 108 = .ok (.ifCond .eq 13, 3) := by decide +kernel
theorem dX6_carried_111 : decode cX6_carried 111 = .ok (.iload 5, 2) := by decide +kernel
theorem dX6_carried_113 : decode cX6_carried 113 = .ok (.iconst 3, 1) := by decide +kernel
theorem dX6_carried_114 : decode cX6_carried 114 = .ok (.if_icmp .ne 7, 3) := by decide +kernel
theorem dX6_carried_117 : decode cX6_carried 117 = .ok (.iload_n 2, 1) := by decide +kernel
theorem dX6_carried_118 : decode cX6_carried 118 = .ok (.goto 10, 3) := by decide +kernel
theorem dX6_carried_121 : decode cX6_carried 121 = .ok (.aload_n 0, 1) := by decide +kernel
theorem dX6_carried_122 : decode cX6_carried 122 = .ok (.getfield 19, 3) := by decide +kernel
theorem dX6_carried_125 : decode cX6_carried 125 = .ok (.iload 4, 2) := by decide +kernel
theorem dX6_carried_127 : decode cX6_carried 127 = .ok (.iaload, 1) := by decide +kernel
theorem dX6_carried_128 : decode cX6_carried 128 = .ok (.iastore, 1) := by decide +kernel
theorem dX6_carried_129 : decode cX6_carried 129 = .ok (.aload_n 0, 1) := by decide +kernel
theorem dX6_carried_130 : decode cX6_carried 130 = .ok (.getfield 22, 3) := by decide +kernel
theorem dX6_carried_133 : decode cX6_carried 133 = .ok (.iload 4, 2) := by decide +kernel
theorem dX6_carried_135 : decode cX6_carried 135 = .ok (.iload_n 3, 1) := by decide +kernel
theorem dX6_carried_136 : decode cX6_carried 136 = .ok (.ifCond .eq 13, 3) := by decide +kernel
theorem dX6_carried_139 : decode cX6_carried 139 = .ok (.iload 5, 2) := by decide +kernel
theorem dX6_carried_141 : decode cX6_carried 141 = .ok (.iconst 4, 1) := by decide +kernel
theorem dX6_carried_142 : decode cX6_carried 142 = .ok (.if_icmp .ne 7, 3) := by decide +kernel
theorem dX6_carried_145 : decode cX6_carried 145 = .ok (.iload_n 2, 1) := by decide +kernel
theorem dX6_carried_146 : decode cX6_carried 146 = .ok (.goto 10, 3) := by decide +kernel
theorem dX6_carried_149 : decode cX6_carried 149 = .ok (.aload_n 0, 1) := by decide +kernel
theorem dX6_carried_150 : decode cX6_carried 150 = .ok (.getfield 22, 3) := by decide +kernel
theorem dX6_carried_153 : decode cX6_carried 153 = .ok (.iload 4, 2) := by decide +kernel
theorem dX6_carried_155 : decode cX6_carried 155 = .ok (.iaload, 1) := by decide +kernel
theorem dX6_carried_156 : decode cX6_carried 156 = .ok (.iastore, 1) := by decide +kernel
theorem dX6_carried_157 : decode cX6_carried 157 = .ok (.iload 5, 2) := by decide +kernel
theorem dX6_carried_159 : decode cX6_carried 159 = .ok (.ifCond .ne 13, 3) := by decide +kernel
theorem dX6_carried_162 : decode cX6_carried 162 = .ok (.aload_n 0, 1) := by decide +kernel
theorem dX6_carried_163 : decode cX6_carried 163 = .ok (.getfield 7, 3) := by decide +kernel
theorem dX6_carried_166 : decode cX6_carried 166 = .ok (.iload 4, 2) := by decide +kernel
theorem dX6_carried_168 : decode cX6_carried 168 = .ok (.iaload, 1) := by decide +kernel
theorem dX6_carried_169 : decode cX6_carried 169 = .ok (.goto 58, 3) := by decide +kernel
theorem dX6_carried_172 : decode cX6_carried 172 = .ok (.iload 5, 2) := by decide +kernel
theorem dX6_carried_174 : decode cX6_carried 174 = .ok (.iconst 1, 1) := by decide +kernel
theorem dX6_carried_175 : decode cX6_carried 175 = .ok (.if_icmp .ne 13, 3) := by decide +kernel
theorem dX6_carried_178 : decode cX6_carried 178 = .ok (.aload_n 0, 1) := by decide +kernel
theorem dX6_carried_179 : decode cX6_carried 179 = .ok (.getfield 13, 3) := by decide +kernel
theorem dX6_carried_182 : decode cX6_carried 182 = .ok (.iload 4, 2) := by decide +kernel
theorem dX6_carried_184 : decode cX6_carried 184 = .ok (.iaload, 1) := by decide +kernel
theorem dX6_carried_185 : decode cX6_carried 185 = .ok (.goto 42, 3) := by decide +kernel
theorem dX6_carried_188 : decode cX6_carried 188 = .ok (.iload 5, 2) := by decide +kernel
theorem dX6_carried_190 : decode cX6_carried 190 = .ok (.iconst 2, 1) := by decide +kernel
theorem dX6_carried_191 : decode cX6_carried 191 = .ok (.if_icmp .ne 13, 3) := by decide +kernel
theorem dX6_carried_194 : decode cX6_carried 194 = .ok (.aload_n 0, 1) := by decide +kernel
theorem dX6_carried_195 : decode cX6_carried 195 = .ok (.getfield 16, 3) := by decide +kernel
theorem dX6_carried_198 : decode cX6_carried 198 = .ok (.iload 4, 2) := by decide +kernel
theorem dX6_carried_200 : decode cX6_carried 200 = .ok (.iaload, 1) := by decide +kernel
theorem dX6_carried_201 : decode cX6_carried 201 = .ok (.goto 26, 3) := by decide +kernel
theorem dX6_carried_204 : decode cX6_carried 204 = .ok (.iload 5, 2) := by decide +kernel
theorem dX6_carried_206 : decode cX6_carried 206 = .ok (.iconst 3, 1) := by decide +kernel
theorem dX6_carried_207 : decode cX6_carried 207 = .ok (.if_icmp .ne 13, 3) := by decide +kernel
theorem dX6_carried_210 : decode cX6_carried 210 = .ok (.aload_n 0, 1) := by decide +kernel
theorem dX6_carried_211 : decode cX6_carried 211 = .ok (.getfield 19, 3) := by decide +kernel
theorem dX6_carried_214 : decode cX6_carried 214 = .ok (.iload 4, 2) := by decide +kernel
theorem dX6_carried_216 : decode cX6_carried 216 = .ok (.iaload, 1) := by decide +kernel
theorem dX6_carried_217 : decode cX6_carried 217 = .ok (.goto 10, 3) := by decide +kernel
theorem dX6_carried_220 : decode cX6_carried 220 = .ok (.aload_n 0, 1) := by decide +kernel
theorem dX6_carried_221 : decode cX6_carried 221 = .ok (.getfield 22, 3) := by decide +kernel
theorem dX6_carried_224 : decode cX6_carried 224 = .ok (.iload 4, 2) := by decide +kernel
theorem dX6_carried_226 : decode cX6_carried 226 = .ok (.iaload, 1) := by decide +kernel
theorem dX6_carried_227 : decode cX6_carried 227 = .ok (.ireturn, 1) := by decide +kernel
theorem dX6_carried_228 : decode cX6_carried 228 = .ok (.aload_n 0, 1) := by decide +kernel
theorem dX6_carried_229 : decode cX6_carried 229 = .ok (.getfield 35, 3) := by decide +kernel
theorem dX6_carried_232 : decode cX6_carried 232 = .ok (.iload_n 1, 1) := by decide +kernel
theorem dX6_carried_233 : decode cX6_carried 233 = .ok (.bipush 30, 2) := by decide +kernel
theorem dX6_carried_235 : decode cX6_carried 235 = .ok (.isub, 1) := by decide +kernel
theorem dX6_carried_236 : decode cX6_carried 236 = .ok (.iload_n 3, 1) := by decide +kernel
theorem dX6_carried_237 : decode cX6_carried 237 = .ok (.ifCond .eq 7, 3) := by decide +kernel
theorem dX6_carried_240 : decode cX6_carried 240 = .ok (.iload_n 2, 1) := by decide +kernel
theorem dX6_carried_241 : decode cX6_carried 241 = .ok (.goto 12, 3) := by decide +kernel
theorem dX6_carried_244 : decode cX6_carried 244 = .ok (.aload_n 0, 1) := by decide +kernel
theorem dX6_carried_245 : decode cX6_carried 245 = .ok (.getfield 35, 3) := by decide +kernel
theorem dX6_carried_248 : decode cX6_carried 248 = .ok (.iload_n 1, 1) := by decide +kernel
theorem dX6_carried_249 : decode cX6_carried 249 = .ok (.bipush 30, 2) := by decide +kernel
theorem dX6_carried_251 : decode cX6_carried 251 = .ok (.isub, 1) := by decide +kernel
theorem dX6_carried_252 : decode cX6_carried 252 = .ok (.iaload, 1) := by decide +kernel
theorem dX6_carried_253 : decode cX6_carried 253 = .ok (.iastore, 1) := by decide +kernel
theorem dX6_carried_254 : decode cX6_carried 254 = .ok (.aload_n 0, 1) := by decide +kernel
theorem dX6_carried_255 : decode cX6_carried 255 = .ok (.getfield 35, 3) := by decide +kernel
theorem dX6_carried_258 : decode cX6_carried 258 = .ok (.iload_n 1, 1) := by decide +kernel
theorem dX6_carried_259 : decode cX6_carried 259 = .ok (.bipush 30, 2) := by decide +kernel
theorem dX6_carried_261 : decode cX6_carried 261 = .ok (.isub, 1) := by decide +kernel
theorem dX6_carried_262 : decode cX6_carried 262 = .ok (.iaload, 1) := by decide +kernel
theorem dX6_carried_263 : decode cX6_carried 263 = .ok (.ireturn, 1) := by decide +kernel
theorem dX6_image_0 : decode cX6_image 0 = .ok (.iconst 0, 1) := by decide +kernel
theorem dX6_image_1 : decode cX6_image 1 = .ok (.istore_n 1, 1) := by decide +kernel
theorem dX6_image_2 : decode cX6_image 2 = .ok (.iload_n 1, 1) := by decide +kernel
theorem dX6_image_3 : decode cX6_image 3 = .ok (.bipush 54, 2) := by decide +kernel
theorem dX6_image_5 : decode cX6_image 5 = .ok (.if_icmp .ge 22, 3) := by decide +kernel
theorem dX6_image_8 : decode cX6_image 8 = .ok (.aload_n 0, 1) := by decide +kernel
theorem dX6_image_9 : decode cX6_image 9 = .ok (.getfield 56, 3) := by decide +kernel
theorem dX6_image_12 : decode cX6_image 12 = .ok (.iload_n 1, 1) := by decide +kernel
theorem dX6_image_13 : decode cX6_image 13 = .ok (.aload_n 0, 1) := by decide +kernel
theorem dX6_image_14 : decode cX6_image 14 = .ok (.iload_n 1, 1) := by decide +kernel
theorem dX6_image_15 : decode cX6_image 15 = .ok (.iconst 0, 1) := by decide +kernel
theorem dX6_image_16 : decode cX6_image 16 = .ok (.iconst 0, 1) := by decide +kernel
theorem dX6_image_17 : decode cX6_image 17 = .ok (.invokevirtual 232, 3) := by decide +kernel
theorem dX6_image_20 : decode cX6_image 20 = .ok (.iastore, 1) := by decide +kernel
theorem dX6_image_21 : decode cX6_image 21 = .ok (.iinc 1 1, 3) := by decide +kernel
theorem dX6_image_24 : decode cX6_image 24 = .ok (.goto (-22), 3) := by decide +kernel
theorem dX6_image_27 : decode cX6_image 27 = .ok (.aload_n 0, 1) := by decide +kernel
theorem dX6_image_28 : decode cX6_image 28 = .ok (.getfield 56, 3) := by decide +kernel
theorem dX6_image_31 : decode cX6_image 31 = .ok (.bipush 54, 2) := by decide +kernel
theorem dX6_image_33 : decode cX6_image 33 = .ok (.aload_n 0, 1) := by decide +kernel
theorem dX6_image_34 : decode cX6_image 34 = .ok (.getfield 72, 3) := by decide +kernel
theorem dX6_image_37 : decode cX6_image 37 = .ok (.iastore, 1) := by decide +kernel
theorem dX6_image_38 : decode cX6_image 38 = .ok (.aload_n 0, 1) := by decide +kernel
theorem dX6_image_39 : decode cX6_image 39 = .ok (.getfield 56, 3) := by decide +kernel
theorem dX6_image_42 : decode cX6_image 42 = .ok (.bipush 55, 2) := by decide +kernel
theorem dX6_image_44 : decode cX6_image 44 = .ok (.aload_n 0, 1) := by decide +kernel
theorem dX6_image_45 : decode cX6_image 45 = .ok (.getfield 112, 3) := by decide +kernel
theorem dX6_image_48 : decode cX6_image 48 = .ok (.iastore, 1) := by decide +kernel
theorem dX6_image_49 : decode cX6_image 49 = .ok (.aload_n 0, 1) := by decide +kernel
theorem dX6_image_50 : decode cX6_image 50 = .ok (.getfield 56, 3) := by decide +kernel
theorem dX6_image_53 : decode cX6_image 53 = .ok (.bipush 56, 2) := by decide +kernel
theorem dX6_image_55 : decode cX6_image 55 = .ok (.aload_n 0, 1) := by decide +kernel
theorem dX6_image_56 : decode cX6_image 56 = .ok (.getfield 25, 3) := by decide +kernel
theorem dX6_image_59 : decode cX6_image 59 = .ok (.iastore, 1) := by decide +kernel
theorem dX6_image_60 : decode cX6_image 60 = .ok (.aload_n 0, 1) := by decide +kernel
theorem dX6_image_61 : decode cX6_image 61 = .ok (.getfield 56, 3) := by decide +kernel
theorem dX6_image_64 : decode cX6_image 64 = .ok (.bipush 57, 2) := by decide +kernel
theorem dX6_image_66 : decode cX6_image 66 = .ok (.aload_n 0, 1) := by decide +kernel
theorem dX6_image_67 : decode cX6_image 67 = .ok (.getfield 29, 3) := by decide +kernel
theorem dX6_image_70 : decode cX6_image 70 = .ok (.iastore, 1) := by decide +kernel
theorem dX6_image_71 : decode cX6_image 71 = .ok (.aload_n 0, 1) := by decide +kernel
theorem dX6_image_72 : decode cX6_image 72 = .ok (.getfield 56, 3) := by decide +kernel
theorem dX6_image_75 : decode cX6_image 75 = .ok (.bipush 58, 2) := by decide +kernel
theorem dX6_image_77 : decode cX6_image 77 = .ok (.aload_n 0, 1) := by decide +kernel
theorem dX6_image_78 : decode cX6_image 78 = .ok (.getfield 115, 3) := by decide +kernel
theorem dX6_image_81 : decode cX6_image 81 = .ok (.iastore, 1) := by decide +kernel
theorem dX6_image_82 : decode cX6_image 82 = .ok (.aload_n 0, 1) := by decide +kernel
theorem dX6_image_83 : decode cX6_image 83 = .ok (.getfield 56, 3) := by decide +kernel
theorem dX6_image_86 : decode cX6_image 86 = .ok (.bipush 59, 2) := by decide +kernel
theorem dX6_image_88 : decode cX6_image 88 = .ok (.aload_n 0, 1) := by decide +kernel
theorem dX6_image_89 : decode cX6_image 89 = .ok (.getfield 118, 3) := by decide +kernel
theorem dX6_image_92 : decode cX6_image 92 = .ok (.iastore, 1) := by decide +kernel
theorem dX6_image_93 : decode cX6_image 93 = .ok (.aload_n 0, 1) := by decide +kernel
theorem dX6_image_94 : decode cX6_image 94 = .ok (.getfield 56, 3) := by decide +kernel
theorem dX6_image_97 : decode cX6_image 97 = .ok (.bipush 60, 2) := by decide +kernel
theorem dX6_image_99 : decode cX6_image 99 = .ok (.aload_n 0, 1) := by decide +kernel
theorem dX6_image_100 : decode cX6_image 100 = .ok (.getfield 98, 3) := by decide +kernel
theorem dX6_image_103 : decode cX6_image 103 = .ok (.iastore, 1) := by decide +kernel
theorem dX6_image_104 : decode cX6_image 104 = .ok (.aload_n 0, 1) := by decide +kernel
theorem dX6_image_105 : decode cX6_image 105 = .ok (.getfield 56, 3) := by decide +kernel
theorem dX6_image_108 : decode cX6_image 108 = .ok (.bipush 61, 2) := by decide +kernel
theorem dX6_image_110 : decode cX6_image 110 = .ok (.aload_n 0, 1) := by decide +kernel
theorem dX6_image_111 : decode cX6_image 111 = .ok (.getfield 32, 3) := by decide +kernel
theorem dX6_image_114 : decode cX6_image 114 = .ok (.iastore, 1) := by decide +kernel
theorem dX6_image_115 : decode cX6_image 115 = .ok (.aload_n 0, 1) := by decide +kernel
theorem dX6_image_116 : decode cX6_image 116 = .ok (.getfield 56, 3) := by decide +kernel
theorem dX6_image_119 : decode cX6_image 119 = .ok (.bipush 62, 2) := by decide +kernel
theorem dX6_image_121 : decode cX6_image 121 = .ok (.aload_n 0, 1) := by decide +kernel
theorem dX6_image_122 : decode cX6_image 122 = .ok (.getfield 121, 3) := by decide +kernel
theorem dX6_image_125 : decode cX6_image 125 = .ok (.iastore, 1) := by decide +kernel
theorem dX6_image_126 : decode cX6_image 126 = .ok (.aload_n 0, 1) := by decide +kernel
theorem dX6_image_127 : decode cX6_image 127 = .ok (.getfield 56, 3) := by decide +kernel
theorem dX6_image_130 : decode cX6_image 130 = .ok (.bipush 63, 2) := by decide +kernel
theorem dX6_image_132 : decode cX6_image 132 = .ok (.aload_n 0, 1) := by decide +kernel
theorem dX6_image_133 : decode cX6_image 133 = .ok (.getfield 38, 3) := by decide +kernel
theorem dX6_image_136 : decode cX6_image 136 = .ok (.iastore, 1) := by decide +kernel
theorem dX6_image_137 : decode cX6_image 137 = .ok (.aload_n 0, 1) := by decide +kernel
theorem dX6_image_138 : decode cX6_image 138 = .ok (.iconst 1, 1) := by decide +kernel
theorem dX6_image_139 : decode cX6_image 139 = .ok (.putfield 236, 3) := by decide +kernel
theorem dX6_image_142 : decode cX6_image 142 = .ok (.iconst 1, 1) := by decide +kernel
theorem dX6_image_143 : decode cX6_image 143 = .ok (.ireturn, 1) := by decide +kernel
theorem dX6_restore_0 : decode cX6_restore 0 = .ok (.aload_n 0, 1) := by decide +kernel
theorem dX6_restore_1 : decode cX6_restore 1 = .ok (.getfield 236, 3) := by decide +kernel
theorem dX6_restore_4 : decode cX6_restore 4 = .ok (.ifCond .ne 6, 3) := by decide +kernel
theorem dX6_restore_7 : decode cX6_restore 7 = .ok (.bipush (-4), 2) := by decide +kernel
theorem dX6_restore_9 : decode cX6_restore 9 = .ok (.ireturn, 1) := by decide +kernel
theorem dX6_restore_10 : decode cX6_restore 10 = .ok (.iconst 0, 1) := by decide +kernel
theorem dX6_restore_11 : decode cX6_restore 11 = .ok (.istore_n 1, 1) := by decide +kernel
theorem dX6_restore_12 : decode cX6_restore 12 = .ok (.iload_n 1, 1) := by decide +kernel
theorem dX6_restore_13 : decode cX6_restore 13 = .ok (.bipush 54, 2) := by decide +kernel
theorem dX6_restore_15 : decode cX6_restore 15 = .ok (.if_icmp .ge 22, 3) := by decide +kernel
theorem dX6_restore_18 : decode cX6_restore 18 = .ok (.aload_n 0, 1) := by decide +kernel
theorem dX6_restore_19 : decode cX6_restore 19 = .ok (.iload_n 1, 1) := by decide +kernel
theorem dX6_restore_20 : decode cX6_restore 20 = .ok (.aload_n 0, 1) := by decide +kernel
theorem dX6_restore_21 : decode cX6_restore 21 = .ok (.getfield 56, 3) := by decide +kernel
theorem dX6_restore_24 : decode cX6_restore 24 = .ok (.iload_n 1, 1) := by decide +kernel
theorem dX6_restore_25 : decode cX6_restore 25 = .ok (.iaload, 1) := by decide +kernel
theorem dX6_restore_26 : decode cX6_restore 26 = .ok (.iconst 1, 1) := by decide +kernel
theorem dX6_restore_27 : decode cX6_restore 27 = .ok (.invokevirtual 232, 3) := by decide +kernel
theorem dX6_restore_30 : decode cX6_restore 30 = .ok (.pop, 1) := by decide +kernel
theorem dX6_restore_31 : decode cX6_restore 31 = .ok (.iinc 1 1, 3) := by decide +kernel
theorem dX6_restore_34 : decode cX6_restore 34 = .ok (.goto (-22), 3) := by decide +kernel
theorem dX6_restore_37 : decode cX6_restore 37 = .ok (.aload_n 0, 1) := by decide +kernel
theorem dX6_restore_38 : decode cX6_restore 38 = .ok (.aload_n 0, 1) := by decide +kernel
theorem dX6_restore_39 : decode cX6_restore 39 = .ok (.getfield 56, 3) := by decide +kernel
theorem dX6_restore_42 : decode cX6_restore 42 = .ok (.bipush 54, 2) := by decide +kernel
theorem dX6_restore_44 : decode cX6_restore 44 = .ok (.iaload, 1) := by decide +kernel
theorem dX6_restore_45 : decode cX6_restore 45 = .ok (.putfield 72, 3) := by decide +kernel
theorem dX6_restore_48 : decode cX6_restore 48 = .ok (.aload_n 0, 1) := by decide +kernel
theorem dX6_restore_49 : decode cX6_restore 49 = .ok (.aload_n 0, 1) := by decide +kernel
theorem dX6_restore_50 : decode cX6_restore 50 = .ok (.getfield 56, 3) := by decide +kernel
theorem dX6_restore_53 : decode cX6_restore 53 = .ok (.bipush 55, 2) := by decide +kernel
theorem dX6_restore_55 : decode cX6_restore 55 = .ok (.iaload, 1) := by decide +kernel
theorem dX6_restore_56 : decode cX6_restore 56 = .ok (.putfield 112, 3) := by decide +kernel
theorem dX6_restore_59 : decode cX6_restore 59 = .ok (.aload_n 0, 1) := by decide +kernel
theorem dX6_restore_60 : decode cX6_restore 60 = .ok (.aload_n 0, 1) := by decide +kernel
theorem dX6_restore_61 : decode cX6_restore 61 = .ok (.getfield 56, 3) := by decide +kernel
theorem dX6_restore_64 : decode cX6_restore 64 = .ok (.bipush 56, 2) := by decide +kernel
theorem dX6_restore_66 : decode cX6_restore 66 = .ok (.iaload, 1) := by decide +kernel
theorem dX6_restore_67 : decode cX6_restore 67 = .ok (.putfield 25, 3) := by decide +kernel
theorem dX6_restore_70 : decode cX6_restore 70 = .ok (.aload_n 0, 1) := by decide +kernel
theorem dX6_restore_71 : decode cX6_restore 71 = .ok (.aload_n 0, 1) := by decide +kernel
theorem dX6_restore_72 : decode cX6_restore 72 = .ok (.getfield 56, 3) := by decide +kernel
theorem dX6_restore_75 : decode cX6_restore 75 = .ok (.bipush 57, 2) := by decide +kernel
theorem dX6_restore_77 : decode cX6_restore 77 = .ok (.iaload, 1) := by decide +kernel
theorem dX6_restore_78 : decode cX6_restore 78 = .ok (.putfield 29, 3) := by decide +kernel
theorem dX6_restore_81 : decode cX6_restore 81 = .ok (.aload_n 0, 1) := by decide +kernel
theorem dX6_restore_82 : decode cX6_restore 82 = .ok (.aload_n 0, 1) := by decide +kernel
theorem dX6_restore_83 : decode cX6_restore 83 = .ok (.getfield 56, 3) := by decide +kernel
theorem dX6_restore_86 : decode cX6_restore 86 = .ok (.bipush 58, 2) := by decide +kernel
theorem dX6_restore_88 : decode cX6_restore 88 = .ok (.iaload, 1) := by decide +kernel
theorem dX6_restore_89 : decode cX6_restore 89 = .ok (.putfield 115, 3) := by decide +kernel
theorem dX6_restore_92 : decode cX6_restore 92 = .ok (.aload_n 0, 1) := by decide +kernel
theorem dX6_restore_93 : decode cX6_restore 93 = .ok (.aload_n 0, 1) := by decide +kernel
theorem dX6_restore_94 : decode cX6_restore 94 = .ok (.getfield 56, 3) := by decide +kernel
theorem dX6_restore_97 : decode cX6_restore 97 = .ok (.bipush 59, 2) := by decide +kernel
theorem dX6_restore_99 : decode cX6_restore 99 = .ok (.iaload, 1) := by decide +kernel
theorem dX6_restore_100 : decode cX6_restore 100 = .ok (.putfield 118, 3) := by decide +kernel
theorem dX6_restore_103 : decode cX6_restore 103 = .ok (.aload_n 0, 1) := by decide +kernel
theorem dX6_restore_104 : decode cX6_restore 104 = .ok (.aload_n 0, 1) := by decide +kernel
theorem dX6_restore_105 : decode cX6_restore 105 = .ok (.getfield 56, 3) := by decide +kernel
theorem dX6_restore_108 : decode cX6_restore 108 = .ok (.bipush 60, 2) := by decide +kernel
theorem dX6_restore_110 : decode cX6_restore 110 = .ok (.iaload, 1) := by decide +kernel
theorem dX6_restore_111 : decode cX6_restore 111 = .ok (.putfield 98, 3) := by decide +kernel
theorem dX6_restore_114 : decode cX6_restore 114 = .ok (.aload_n 0, 1) := by decide +kernel
theorem dX6_restore_115 : decode cX6_restore 115 = .ok (.aload_n 0, 1) := by decide +kernel
theorem dX6_restore_116 : decode cX6_restore 116 = .ok (.getfield 56, 3) := by decide +kernel
theorem dX6_restore_119 : decode cX6_restore 119 = .ok (.bipush 61, 2) := by decide +kernel
theorem dX6_restore_121 : decode cX6_restore 121 = .ok (.iaload, 1) := by decide +kernel
theorem dX6_restore_122 : decode cX6_restore 122 = .ok (.putfield 32, 3) := by decide +kernel
theorem dX6_restore_125 : decode cX6_restore 125 = .ok (.aload_n 0, 1) := by decide +kernel
theorem dX6_restore_126 : decode cX6_restore 126 = .ok (.aload_n 0, 1) := by decide +kernel
theorem dX6_restore_127 : decode cX6_restore 127 = .ok (.getfield 56, 3) := by decide +kernel
theorem dX6_restore_130 : decode cX6_restore 130 = .ok (.bipush 62, 2) := by decide +kernel
theorem dX6_restore_132 : decode cX6_restore 132 = .ok (.iaload, 1) := by decide +kernel
theorem dX6_restore_133 : decode cX6_restore 133 = .ok (.putfield 121, 3) := by decide +kernel
theorem dX6_restore_136 : decode cX6_restore 136 = .ok (.aload_n 0, 1) := by decide +kernel
theorem dX6_restore_137 : decode cX6_restore 137 = .ok (.aload_n 0, 1) := by decide +kernel
theorem dX6_restore_138 : decode cX6_restore 138 = .ok (.getfield 56, 3) := by decide +kernel
theorem dX6_restore_141 : decode cX6_restore 141 = .ok (.bipush 63, 2) := by decide +kernel
theorem dX6_restore_143 : decode cX6_restore 143 = .ok (.iaload, 1) := by decide +kernel
theorem dX6_restore_144 : decode cX6_restore 144 = .ok (.putfield 38, 3) := by decide +kernel
theorem dX6_restore_147 : decode cX6_restore 147 = .ok (.iconst 1, 1) := by decide +kernel
theorem dX6_restore_148 : decode cX6_restore 148 = .ok (.ireturn, 1) := by decide +kernel
theorem dX6_isSheet_0 : decode cX6_isSheet 0 = .ok (.iload_n 0, 1) := by decide +kernel
theorem dX6_isSheet_1 : decode cX6_isSheet 1 = .ok (.i2l, 1) := by decide +kernel
theorem dX6_isSheet_2 : decode cX6_isSheet 2 = .ok (.lconst 0, 1) := by decide +kernel
theorem dX6_isSheet_3 : decode cX6_isSheet 3 = .ok (.ldc2_w 83, 3) := by decide +kernel
theorem dX6_isSheet_6 : decode cX6_isSheet 6 = .ok (.invokestatic 75, 3) := by decide +kernel
theorem dX6_isSheet_9 : decode cX6_isSheet 9 = .ok (.ifCond .eq 19, 3) := by decide +kernel
theorem dX6_isSheet_12 : decode cX6_isSheet 12 = .ok (.iload_n 1, 1) := by decide +kernel
theorem dX6_isSheet_13 : decode cX6_isSheet 13 = .ok (.i2l, 1) := by decide +kernel
theorem dX6_isSheet_14 : decode cX6_isSheet 14 = .ok (.lconst 0, 1) := by decide +kernel
theorem dX6_isSheet_15 : decode cX6_isSheet 15 = .ok (.ldc2_w 105, 3) := by decide +kernel
theorem dX6_isSheet_18 : decode cX6_isSheet 18 = .ok (.invokestatic 75, 3) := by decide +kernel
theorem dX6_isSheet_21 : decode cX6_isSheet 21 = .ok (.ifCond .eq 7, 3) := by decide +kernel
theorem dX6_isSheet_24 : decode cX6_isSheet 24 = .ok (.iconst 1, 1) := by decide +kernel
theorem dX6_isSheet_25 : decode cX6_isSheet 25 = .ok (.goto 4, 3) := by decide +kernel
theorem dX6_isSheet_28 : decode cX6_isSheet 28 = .ok (.iconst 0, 1) := by decide +kernel
theorem dX6_isSheet_29 : decode cX6_isSheet 29 = .ok (.ireturn, 1) := by decide +kernel
theorem dX6_asLane_0 : decode cX6_asLane 0 = .ok (.iload_n 0, 1) := by decide +kernel
theorem dX6_asLane_1 : decode cX6_asLane 1 = .ok (.ifCond .ne 13, 3) := by decide +kernel
theorem dX6_asLane_4 : decode cX6_asLane 4 = .ok (.lload_n 1, 1) := by decide +kernel
theorem dX6_asLane_5 : decode cX6_asLane 5 = .ok (.bipush 56, 2) := by decide +kernel
theorem dX6_asLane_7 : decode cX6_asLane 7 = .ok (.lshl, 1) := by decide +kernel
theorem dX6_asLane_8 : decode cX6_asLane 8 = .ok (.bipush 56, 2) := by decide +kernel
theorem dX6_asLane_10 : decode cX6_asLane 10 = .ok (.lshr, 1) := by decide +kernel
theorem dX6_asLane_11 : decode cX6_asLane 11 = .ok (.goto 19, 3) := by decide +kernel
theorem dX6_asLane_14 : decode cX6_asLane 14 = .ok (.iload_n 0, 1) := by decide +kernel
theorem dX6_asLane_15 : decode cX6_asLane 15 = .ok (.iconst 1, 1) := by decide +kernel
theorem dX6_asLane_16 : decode cX6_asLane 16 = .ok (.if_icmp .ne 13, 3) := by decide +kernel
theorem dX6_asLane_19 : decode cX6_asLane 19 = .ok (.lload_n 1, 1) := by decide +kernel
theorem dX6_asLane_20 : decode cX6_asLane 20 = .ok (.bipush 48, 2) := by decide +kernel
theorem dX6_asLane_22 : decode cX6_asLane 22 = .ok (.lshl, 1) := by decide +kernel
theorem dX6_asLane_23 : decode cX6_asLane 23 = .ok (.bipush 48, 2) := by decide +kernel
theorem dX6_asLane_25 : decode cX6_asLane 25 = .ok (.lshr, 1) := by decide +kernel
theorem dX6_asLane_26 : decode cX6_asLane 26 = .ok (.goto 4, 3) := by decide +kernel
theorem dX6_asLane_29 : decode cX6_asLane 29 = .ok (.lload_n 1, 1) := by decide +kernel
theorem dX6_asLane_30 : decode cX6_asLane 30 = .ok (.lreturn, 1) := by decide +kernel
theorem dX6_sheet_0 : decode cX6_sheet 0 = .ok (.iload_n 1, 1) := by decide +kernel
theorem dX6_sheet_1 : decode cX6_sheet 1 = .ok (.iload_n 2, 1) := by decide +kernel
theorem dX6_sheet_2 : decode cX6_sheet 2 = .ok (.invokestatic 239, 3) := by decide +kernel
theorem dX6_sheet_5 : decode cX6_sheet 5 = .ok (.ifCond .eq 9, 3) := by decide +kernel
theorem dX6_sheet_8 : decode cX6_sheet 8 = .ok (.iload_n 3, 1) := by decide +kernel
theorem dX6_sheet_9 : decode cX6_sheet 9 = .ok (.bipush 24, 2) := by decide +kernel
theorem dX6_sheet_11 : decode cX6_sheet 11 = .ok (.if_icmp .le 5, 3) := by decide +kernel
theorem dX6_sheet_14 : decode cX6_sheet 14 = .ok (.iconst (-1), 1) := by decide +kernel
theorem dX6_sheet_15 : decode cX6_sheet 15 = .ok (.ireturn, 1) := by decide +kernel
theorem dX6_sheet_16 : decode cX6_sheet 16 = .ok (.iload_n 3, 1) := by decide +kernel
theorem dX6_sheet_17 : decode cX6_sheet 17 = .ok (.ifCond .ge 6, 3) := by decide +kernel
theorem dX6_sheet_20 : decode cX6_sheet 20 = .ok (.bipush (-14), 2) := by decide +kernel
theorem dX6_sheet_22 : decode cX6_sheet 22 = .ok (.ireturn, 1) := by decide +kernel
theorem dX6_sheet_23 : decode cX6_sheet 23 = .ok (.aload_n 0, 1) := by decide +kernel
theorem dX6_sheet_24 : decode cX6_sheet 24 = .ok (.getfield 59, 3) := by decide +kernel
theorem dX6_sheet_27 : decode cX6_sheet 27 = .ok (.iload_n 1, 1) := by decide +kernel
theorem dX6_sheet_28 : decode cX6_sheet 28 = .ok (.iload_n 2, 1) := by decide +kernel
theorem dX6_sheet_29 : decode cX6_sheet 29 = .ok (.iastore, 1) := by decide +kernel
theorem dX6_sheet_30 : decode cX6_sheet 30 = .ok (.aload_n 0, 1) := by decide +kernel
theorem dX6_sheet_31 : decode cX6_sheet 31 = .ok (.getfield 62, 3) := by decide +kernel
theorem dX6_sheet_34 : decode cX6_sheet 34 = .ok (.iload_n 1, 1) := by decide +kernel
theorem dX6_sheet_35 : decode cX6_sheet 35 = .ok (.iload_n 3, 1) := by decide +kernel
theorem dX6_sheet_36 : decode cX6_sheet 36 = .ok (.iastore, 1) := by decide +kernel
theorem dX6_sheet_37 : decode cX6_sheet 37 = .ok (.iconst 0, 1) := by decide +kernel
theorem dX6_sheet_38 : decode cX6_sheet 38 = .ok (.istore 4, 2) := by decide +kernel
theorem dX6_sheet_40 : decode cX6_sheet 40 = .ok (.iload 4, 2) := by decide +kernel
theorem dX6_sheet_42 : decode cX6_sheet 42 = .ok (.bipush 24, 2) := by decide +kernel
theorem dX6_sheet_44 : decode cX6_sheet 44 = .ok (.if_icmp .ge 22, 3) := by decide +kernel
theorem dX6_sheet_47 : decode cX6_sheet 47 = .ok (.aload_n 0, 1) := by decide +kernel
theorem dX6_sheet_48 : decode cX6_sheet 48 = .ok (.getfield 65, 3) := by decide +kernel
theorem dX6_sheet_51 : decode cX6_sheet 51 = .ok (.bipush 24, 2) := by decide +kernel
theorem dX6_sheet_53 : decode cX6_sheet 53 = .ok (.iload_n 1, 1) := by decide +kernel
theorem dX6_sheet_54 : decode cX6_sheet 54 = .ok (.imul, 1) := by decide +kernel
theorem dX6_sheet_55 : decode cX6_sheet 55 = .ok (.iload 4, 2) := by decide +kernel
theorem dX6_sheet_57 : decode cX6_sheet 57 = .ok (.iadd, 1) := by decide +kernel
theorem dX6_sheet_58 : decode cX6_sheet 58 = .ok (.lconst 0, 1) := by decide +kernel
theorem dX6_sheet_59 : decode cX6_sheet 59 = .ok (.lastore, 1) := by decide +kernel
theorem dX6_sheet_60 : decode cX6_sheet 60 = .ok (.iinc 4 1, 3) := by decide +kernel
theorem dX6_sheet_63 : decode cX6_sheet 63 = .ok (.goto (-23), 3) := by decide +kernel
theorem dX6_sheet_66 : decode cX6_sheet 66 = .ok (.iload_n 3, 1) := by decide +kernel
theorem dX6_sheet_67 : decode cX6_sheet 67 = .ok (.ireturn, 1) := by decide +kernel
theorem dX6_drop_0 : decode cX6_drop 0 = .ok (.iload_n 1, 1) := by decide +kernel
theorem dX6_drop_1 : decode cX6_drop 1 = .ok (.i2l, 1) := by decide +kernel
theorem dX6_drop_2 : decode cX6_drop 2 = .ok (.lconst 0, 1) := by decide +kernel
theorem dX6_drop_3 : decode cX6_drop 3 = .ok (.ldc2_w 83, 3) := by decide +kernel
theorem dX6_drop_6 : decode cX6_drop 6 = .ok (.invokestatic 75, 3) := by decide +kernel
theorem dX6_drop_9 : decode cX6_drop 9 = .ok (.ifCond .ne 5, 3) := by decide +kernel
theorem dX6_drop_12 : decode cX6_drop 12 = .ok (.iconst (-1), 1) := by decide +kernel
theorem dX6_drop_13 : decode cX6_drop 13 = .ok (.ireturn, 1) := by decide +kernel
theorem dX6_drop_14 : decode cX6_drop 14 = .ok (.aload_n 0, 1) := by decide +kernel
theorem dX6_drop_15 : decode cX6_drop 15 = .ok (.getfield 59, 3) := by decide +kernel
theorem dX6_drop_18 : decode cX6_drop 18 = .ok (.iload_n 1, 1) := by decide +kernel
theorem dX6_drop_19 : decode cX6_drop 19 = .ok (.iaload, 1) := by decide +kernel
theorem dX6_drop_20 : decode cX6_drop 20 = .ok (.ifCond .ge 6, 3) := by decide +kernel
theorem dX6_drop_23 : decode cX6_drop 23 = .ok (.bipush (-11), 2) := by decide +kernel
theorem dX6_drop_25 : decode cX6_drop 25 = .ok (.ireturn, 1) := by decide +kernel
theorem dX6_drop_26 : decode cX6_drop 26 = .ok (.aload_n 0, 1) := by decide +kernel
theorem dX6_drop_27 : decode cX6_drop 27 = .ok (.getfield 59, 3) := by decide +kernel
theorem dX6_drop_30 : decode cX6_drop 30 = .ok (.iload_n 1, 1) := by decide +kernel
theorem dX6_drop_31 : decode cX6_drop 31 = .ok (.iconst (-1), 1) := by decide +kernel
theorem dX6_drop_32 : decode cX6_drop 32 = .ok (.iastore, 1) := by decide +kernel
theorem dX6_drop_33 : decode cX6_drop 33 = .ok (.aload_n 0, 1) := by decide +kernel
theorem dX6_drop_34 : decode cX6_drop 34 = .ok (.getfield 62, 3) := by decide +kernel
theorem dX6_drop_37 : decode cX6_drop 37 = .ok (.iload_n 1, 1) := by decide +kernel
theorem dX6_drop_38 : decode cX6_drop 38 = .ok (.iaload, 1) := by decide +kernel
theorem dX6_drop_39 : decode cX6_drop 39 = .ok (.ireturn, 1) := by decide +kernel
theorem dX6_lacksRow_0 : decode cX6_lacksRow 0 = .ok (.aload_n 0, 1) := by decide +kernel
theorem dX6_lacksRow_1 : decode cX6_lacksRow 1 = .ok (.getfield 59, 3) := by decide +kernel
theorem dX6_lacksRow_4 : decode cX6_lacksRow 4 = .ok (.iload_n 1, 1) := by decide +kernel
theorem dX6_lacksRow_5 : decode cX6_lacksRow 5 = .ok (.iaload, 1) := by decide +kernel
theorem dX6_lacksRow_6 : decode cX6_lacksRow 6 = .ok (.iload_n 2, 1) := by decide +kernel
theorem dX6_lacksRow_7 : decode cX6_lacksRow 7 = .ok (.if_icmp .eq 20, 3) := by decide +kernel
theorem dX6_lacksRow_10 : decode cX6_lacksRow 10 = .ok (.aload_n 0, 1) := by decide +kernel
theorem dX6_lacksRow_11 : decode cX6_lacksRow 11 = .ok (.getfield 59, 3) := by decide +kernel
theorem dX6_lacksRow_14 : decode cX6_lacksRow 14 = .ok (.iload_n 1, 1) := by decide +kernel
theorem dX6_lacksRow_15 : decode cX6_lacksRow 15 = .ok (.iaload, 1) := by decide +kernel
theorem dX6_lacksRow_16 : decode cX6_lacksRow 16 = .ok (.ifCond .ge 8, 3) := by decide +kernel
theorem dX6_lacksRow_19 : decode cX6_lacksRow 19 = .ok (.bipush (-11), 2) := by decide +kernel
theorem dX6_lacksRow_21 : decode cX6_lacksRow 21 = .ok (.goto 5, 3) := by decide +kernel
theorem dX6_lacksRow_24 : decode cX6_lacksRow 24 = .ok (.bipush (-12), 2) := by decide +kernel
theorem dX6_lacksRow_26 : decode cX6_lacksRow 26 = .ok (.ireturn, 1) := by decide +kernel
theorem dX6_lacksRow_27 : decode cX6_lacksRow 27 = .ok (.iload_n 3, 1) := by decide +kernel
theorem dX6_lacksRow_28 : decode cX6_lacksRow 28 = .ok (.i2l, 1) := by decide +kernel
theorem dX6_lacksRow_29 : decode cX6_lacksRow 29 = .ok (.lconst 0, 1) := by decide +kernel
theorem dX6_lacksRow_30 : decode cX6_lacksRow 30 = .ok (.aload_n 0, 1) := by decide +kernel
theorem dX6_lacksRow_31 : decode cX6_lacksRow 31 = .ok (.getfield 62, 3) := by decide +kernel
theorem dX6_lacksRow_34 : decode cX6_lacksRow 34 = .ok (.iload_n 1, 1) := by decide +kernel
theorem dX6_lacksRow_35 : decode cX6_lacksRow 35 = .ok (.iaload, 1) := by decide +kernel
theorem dX6_lacksRow_36 : decode cX6_lacksRow 36 = .ok (.iload 4, 2) := by decide +kernel
theorem dX6_lacksRow_38 : decode cX6_lacksRow 38 = .ok (.isub, 1) := by decide +kernel
theorem dX6_lacksRow_39 : decode cX6_lacksRow 39 = .ok (.i2l, 1) := by decide +kernel
theorem dX6_lacksRow_40 : decode cX6_lacksRow 40 = .ok (.invokestatic 75, 3) := by decide +kernel
theorem dX6_lacksRow_43 : decode cX6_lacksRow 43 = .ok (.ifCond .eq 7, 3) := by decide +kernel
theorem dX6_lacksRow_46 : decode cX6_lacksRow 46 = .ok (.iconst 0, 1) := by decide +kernel
theorem dX6_lacksRow_47 : decode cX6_lacksRow 47 = .ok (.goto 5, 3) := by decide +kernel
theorem dX6_lacksRow_50 : decode cX6_lacksRow 50 = .ok (.bipush (-13), 2) := by decide +kernel
theorem dX6_lacksRow_52 : decode cX6_lacksRow 52 = .ok (.ireturn, 1) := by decide +kernel
theorem dX6_item_0 : decode cX6_item 0 = .ok (.iload_n 1, 1) := by decide +kernel
theorem dX6_item_1 : decode cX6_item 1 = .ok (.iload_n 2, 1) := by decide +kernel
theorem dX6_item_2 : decode cX6_item 2 = .ok (.invokestatic 239, 3) := by decide +kernel
theorem dX6_item_5 : decode cX6_item 5 = .ok (.ifCond .ne 5, 3) := by decide +kernel
theorem dX6_item_8 : decode cX6_item 8 = .ok (.iconst (-1), 1) := by decide +kernel
theorem dX6_item_9 : decode cX6_item 9 = .ok (.ireturn, 1) := by decide +kernel
theorem dX6_item_10 : decode cX6_item 10 = .ok (.aload_n 0, 1) := by decide +kernel
theorem dX6_item_11 : decode cX6_item 11 = .ok (.iload_n 1, 1) := by decide +kernel
theorem dX6_item_12 : decode cX6_item 12 = .ok (.iload_n 2, 1) := by decide +kernel
theorem dX6_item_13 : decode cX6_item 13 = .ok (.iload_n 3, 1) := by decide +kernel
theorem dX6_item_14 : decode cX6_item 14 = .ok (.iconst 1, 1) := by decide +kernel
theorem dX6_item_15 : decode cX6_item 15 = .ok (.invokevirtual 242, 3) := by decide +kernel
theorem dX6_item_18 : decode cX6_item 18 = .ok (.istore 6, 2) := by decide +kernel
theorem dX6_item_20 : decode cX6_item 20 = .ok (.iload 6, 2) := by decide +kernel
theorem dX6_item_22 : decode cX6_item 22 = .ok (.ifCond .ge 6, 3) := by decide +kernel
theorem dX6_item_25 : decode cX6_item 25 = .ok (.iload 6, 2) := by decide +kernel
theorem dX6_item_27 : decode cX6_item 27 = .ok (.ireturn, 1) := by decide +kernel
theorem dX6_item_28 : decode cX6_item 28 = .ok (.aload_n 0, 1) := by decide +kernel
theorem dX6_item_29 : decode cX6_item 29 = .ok (.getfield 65, 3) := by decide +kernel
theorem dX6_item_32 : decode cX6_item 32 = .ok (.bipush 24, 2) := by decide +kernel
theorem dX6_item_34 : decode cX6_item 34 = .ok (.iload_n 1, 1) := by decide +kernel
theorem dX6_item_35 : decode cX6_item 35 = .ok (.imul, 1) := by decide +kernel
theorem dX6_item_36 : decode cX6_item 36 = .ok (.iload_n 3, 1) := by decide +kernel
theorem dX6_item_37 : decode cX6_item 37 = .ok (.iadd, 1) := by decide +kernel
theorem dX6_item_38 : decode cX6_item 38 = .ok (.iload_n 2, 1) := by decide +kernel
theorem dX6_item_39 : decode cX6_item 39 = .ok (.lload 4, 2) := by decide +kernel
theorem dX6_item_41 : decode cX6_item 41 = .ok (.invokestatic 246, 3) := by decide +kernel
theorem dX6_item_44 : decode cX6_item 44 = .ok (.lastore, 1) := by decide +kernel
theorem dX6_item_45 : decode cX6_item 45 = .ok (.iconst 1, 1) := by decide +kernel
theorem dX6_item_46 : decode cX6_item 46 = .ok (.ireturn, 1) := by decide +kernel
theorem dX6_fits_0 : decode cX6_fits 0 = .ok (.iload_n 3, 1) := by decide +kernel
theorem dX6_fits_1 : decode cX6_fits 1 = .ok (.istore 4, 2) := by decide +kernel
theorem dX6_fits_3 : decode cX6_fits 3 = .ok (.iconst 1, 1) := by decide +kernel
theorem dX6_fits_4 : decode cX6_fits 4 = .ok (.istore 5, 2) := by decide +kernel
theorem dX6_fits_6 : decode cX6_fits 6 = .ok (.iconst 0, 1) := by decide +kernel
theorem dX6_fits_7 : decode cX6_fits 7 = .ok (.istore 6, 2) := by decide +kernel
theorem dX6_fits_9 : decode cX6_fits 9 = .ok (.iload 6, 2) := by decide +kernel
theorem dX6_fits_11 : decode cX6_fits 11 = .ok (.iload_n 2, 1) := by decide +kernel
theorem dX6_fits_12 : decode cX6_fits 12 = .ok (.if_icmp .ge 82, 3) := by decide +kernel
theorem dX6_fits_15 : decode cX6_fits 15 = .ok (.iload 5, 2) := by decide +kernel
theorem dX6_fits_17 : decode cX6_fits 17 = .ok (.ifCond .eq 77, 3) := by decide +kernel
theorem dX6_fits_20 : decode cX6_fits 20 = .ok (.aload_n 0, 1) := by decide +kernel
theorem dX6_fits_21 : decode cX6_fits 21 = .ok (.getfield 65, 3) := by decide +kernel
theorem dX6_fits_24 : decode cX6_fits 24 = .ok (.iload_n 1, 1) := by decide +kernel
theorem dX6_fits_25 : decode cX6_fits 25 = .ok (.iconst 2, 1) := by decide +kernel
theorem dX6_fits_26 : decode cX6_fits 26 = .ok (.iload 6, 2) := by decide +kernel
theorem dX6_fits_28 : decode cX6_fits 28 = .ok (.imul, 1) := by decide +kernel
theorem dX6_fits_29 : decode cX6_fits 29 = .ok (.iadd, 1) := by decide +kernel
theorem dX6_fits_30 : decode cX6_fits 30 = .ok (.laload, 1) := by decide +kernel
theorem dX6_fits_31 : decode cX6_fits 31 = .ok (.l2i, 1) := by decide +kernel
theorem dX6_fits_32 : decode cX6_fits 32 = .ok (.istore 7, 2) := by decide +kernel
theorem dX6_fits_34 : decode cX6_fits 34 = .ok (.aload_n 0, 1) := by decide +kernel
theorem dX6_fits_35 : decode cX6_fits 35 = .ok (.getfield 7, 3) := by decide +kernel
theorem dX6_fits_38 : decode cX6_fits 38 = .ok (.iload 7, 2) := by decide +kernel
theorem dX6_fits_40 : decode cX6_fits 40 = .ok (.iaload, 1) := by decide +kernel
theorem dX6_fits_41 : decode cX6_fits 41 = .ok (.iload 4, 2) := by decide +kernel
theorem dX6_fits_43 : decode cX6_fits 43 = .ok (.invokestatic 182, 3) := by decide +kernel
theorem dX6_fits_46 : decode cX6_fits 46 = .ok (.i2l, 1) := by decide +kernel
theorem dX6_fits_47 : decode cX6_fits 47 = .ok (.aload_n 0, 1) := by decide +kernel
theorem dX6_fits_48 : decode cX6_fits 48 = .ok (.getfield 65, 3) := by decide +kernel
theorem dX6_fits_51 : decode cX6_fits 51 = .ok (.iload_n 1, 1) := by decide +kernel
theorem dX6_fits_52 : decode cX6_fits 52 = .ok (.iconst 2, 1) := by decide +kernel
theorem dX6_fits_53 : decode cX6_fits 53 = .ok (.iload 6, 2) := by decide +kernel
theorem dX6_fits_55 : decode cX6_fits 55 = .ok (.imul, 1) := by decide +kernel
theorem dX6_fits_56 : decode cX6_fits 56 = .ok (.iadd, 1) := by decide +kernel
theorem dX6_fits_57 : decode cX6_fits 57 = .ok (.iconst 1, 1) := by decide +kernel
theorem dX6_fits_58 : decode cX6_fits 58 = .ok (.iadd, 1) := by decide +kernel
theorem dX6_fits_59 : decode cX6_fits 59 = .ok (.laload, 1) := by decide +kernel
theorem dX6_fits_60 : decode cX6_fits 60 = .ok (.lcmp, 1) := by decide +kernel
theorem dX6_fits_61 : decode cX6_fits 61 = .ok (.ifCond .ne 7, 3) := by decide +kernel
theorem dX6_fits_64 : decode cX6_fits 64 = .ok (.iconst 1, 1) := by decide +kernel
theorem dX6_fits_65 : decode cX6_fits 65 = .ok (.goto 4, 3) := by decide +kernel
theorem dX6_fits_68 : decode cX6_fits 68 = .ok (.iconst 0, 1) := by decide +kernel
theorem dX6_fits_69 : decode cX6_fits 69 = .ok (.istore 5, 2) := by decide +kernel
theorem dX6_fits_71 : decode cX6_fits 71 = .ok (.iload 4, 2) := by decide +kernel
theorem dX6_fits_73 : decode cX6_fits 73 = .ok (.aload_n 0, 1) := by decide +kernel
theorem dX6_fits_74 : decode cX6_fits 74 = .ok (.iload 7, 2) := by decide +kernel
theorem dX6_fits_76 : decode cX6_fits 76 = .ok (.invokevirtual 188, 3) := by decide +kernel
theorem dX6_fits_79 : decode cX6_fits 79 = .ok (.iadd, 1) := by decide +kernel
theorem dX6_fits_80 : decode cX6_fits 80 = .ok (.invokestatic 192, 3) := by decide +kernel
theorem dX6_fits_83 : decode cX6_fits 83 = .ok (.invokestatic 195, 3) := by decide +kernel
theorem dX6_fits_86 : decode cX6_fits 86 = .ok (.istore 4, 2) := by decide +kernel
theorem dX6_fits_88 : decode cX6_fits 88 = .ok (.iinc 6 1, 3) := by decide +kernel
theorem dX6_fits_91 : decode cX6_fits 91 = .ok (.goto (-82), 3) := by decide +kernel
theorem dX6_fits_94 : decode cX6_fits 94 = .ok (.iload 5, 2) := by decide +kernel
theorem dX6_fits_96 : decode cX6_fits 96 = .ok (.ireturn, 1) := by decide +kernel
theorem dX6_fit_0 : decode cX6_fit 0 = .ok (.iload_n 1, 1) := by decide +kernel
theorem dX6_fit_1 : decode cX6_fit 1 = .ok (.iload_n 2, 1) := by decide +kernel
theorem dX6_fit_2 : decode cX6_fit 2 = .ok (.invokestatic 239, 3) := by decide +kernel
theorem dX6_fit_5 : decode cX6_fit 5 = .ok (.ifCond .eq 16, 3) := by decide +kernel
theorem dX6_fit_8 : decode cX6_fit 8 = .ok (.iload 4, 2) := by decide +kernel
theorem dX6_fit_10 : decode cX6_fit 10 = .ok (.i2l, 1) := by decide +kernel
theorem dX6_fit_11 : decode cX6_fit 11 = .ok (.lconst 1, 1) := by decide +kernel
theorem dX6_fit_12 : decode cX6_fit 12 = .ok (.ldc2_w 124, 3) := by decide +kernel
theorem dX6_fit_15 : decode cX6_fit 15 = .ok (.invokestatic 75, 3) := by decide +kernel
theorem dX6_fit_18 : decode cX6_fit 18 = .ok (.ifCond .ne 5, 3) := by decide +kernel
theorem dX6_fit_21 : decode cX6_fit 21 = .ok (.iconst (-1), 1) := by decide +kernel
theorem dX6_fit_22 : decode cX6_fit 22 = .ok (.ireturn, 1) := by decide +kernel
theorem dX6_fit_23 : decode cX6_fit 23 = .ok (.aload_n 0, 1) := by decide +kernel
theorem dX6_fit_24 : decode cX6_fit 24 = .ok (.iload_n 1, 1) := by decide +kernel
theorem dX6_fit_25 : decode cX6_fit 25 = .ok (.iload_n 2, 1) := by decide +kernel
theorem dX6_fit_26 : decode cX6_fit 26 = .ok (.iload_n 3, 1) := by decide +kernel
theorem dX6_fit_27 : decode cX6_fit 27 = .ok (.iconst 2, 1) := by decide +kernel
theorem dX6_fit_28 : decode cX6_fit 28 = .ok (.iload 4, 2) := by decide +kernel
theorem dX6_fit_30 : decode cX6_fit 30 = .ok (.imul, 1) := by decide +kernel
theorem dX6_fit_31 : decode cX6_fit 31 = .ok (.invokevirtual 242, 3) := by decide +kernel
theorem dX6_fit_34 : decode cX6_fit 34 = .ok (.istore 5, 2) := by decide +kernel
theorem dX6_fit_36 : decode cX6_fit 36 = .ok (.iload 5, 2) := by decide +kernel
theorem dX6_fit_38 : decode cX6_fit 38 = .ok (.ifCond .ge 6, 3) := by decide +kernel
theorem dX6_fit_41 : decode cX6_fit 41 = .ok (.iload 5, 2) := by decide +kernel
theorem dX6_fit_43 : decode cX6_fit 43 = .ok (.ireturn, 1) := by decide +kernel
theorem dX6_fit_44 : decode cX6_fit 44 = .ok (.bipush 24, 2) := by decide +kernel
theorem dX6_fit_46 : decode cX6_fit 46 = .ok (.iload_n 1, 1) := by decide +kernel
theorem dX6_fit_47 : decode cX6_fit 47 = .ok (.imul, 1) := by decide +kernel
theorem dX6_fit_48 : decode cX6_fit 48 = .ok (.iload_n 3, 1) := by decide +kernel
theorem dX6_fit_49 : decode cX6_fit 49 = .ok (.iadd, 1) := by decide +kernel
theorem dX6_fit_50 : decode cX6_fit 50 = .ok (.istore 6, 2) := by decide +kernel
theorem dX6_fit_52 : decode cX6_fit 52 = .ok (.iconst 0, 1) := by decide +kernel
theorem dX6_fit_53 : decode cX6_fit 53 = .ok (.istore 7, 2) := by decide +kernel
theorem dX6_fit_55 : decode cX6_fit 55 = .ok (.iload 7, 2) := by decide +kernel
theorem dX6_fit_57 : decode cX6_fit 57 = .ok (.iload 4, 2) := by decide +kernel
theorem dX6_fit_59 : decode cX6_fit 59 = .ok (.if_icmp .ge 62, 3) := by decide +kernel
theorem dX6_fit_62 : decode cX6_fit 62 = .ok (.aload_n 0, 1) := by decide +kernel
theorem dX6_fit_63 : decode cX6_fit 63 = .ok (.getfield 65, 3) := by decide +kernel
theorem dX6_fit_66 : decode cX6_fit 66 = .ok (.iload 6, 2) := by decide +kernel
theorem dX6_fit_68 : decode cX6_fit 68 = .ok (.iconst 2, 1) := by decide +kernel
theorem dX6_fit_69 : decode cX6_fit 69 = .ok (.iload 7, 2) := by decide +kernel
theorem dX6_fit_71 : decode cX6_fit 71 = .ok (.imul, 1) := by decide +kernel
theorem dX6_fit_72 : decode cX6_fit 72 = .ok (.iadd, 1) := by decide +kernel
theorem dX6_fit_73 : decode cX6_fit 73 = .ok (.laload, 1) := by decide +kernel
theorem dX6_fit_74 : decode cX6_fit 74 = .ok (.lconst 0, 1) := by decide +kernel
theorem dX6_fit_75 : decode cX6_fit 75 = .ok (.aload_n 0, 1) := by decide +kernel
theorem dX6_fit_76 : decode cX6_fit 76 = .ok (.getfield 72, 3) := by decide +kernel
theorem dX6_fit_79 : decode cX6_fit 79 = .ok (.iconst 1, 1) := by decide +kernel
theorem dX6_fit_80 : decode cX6_fit 80 = .ok (.isub, 1) := by decide +kernel
theorem dX6_fit_81 : decode cX6_fit 81 = .ok (.i2l, 1) := by decide +kernel
theorem dX6_fit_82 : decode cX6_fit 82 = .ok (.invokestatic 75, 3) := by decide +kernel
theorem dX6_fit_85 : decode cX6_fit 85 = .ok (.ifCond .eq 27, 3) := by decide +kernel
theorem dX6_fit_88 : decode cX6_fit 88 = .ok (.aload_n 0, 1) := by decide +kernel
theorem dX6_fit_89 : decode cX6_fit 89 = .ok (.getfield 65, 3) := by decide +kernel
theorem dX6_fit_92 : decode cX6_fit 92 = .ok (.iload 6, 2) := by decide +kernel
theorem dX6_fit_94 : decode cX6_fit 94 = .ok (.iconst 2, 1) := by decide +kernel
theorem dX6_fit_95 : decode cX6_fit 95 = .ok (.iload 7, 2) := by decide +kernel
theorem dX6_fit_97 : decode cX6_fit 97 = .ok (.imul, 1) := by decide +kernel
theorem dX6_fit_98 : decode cX6_fit 98 = .ok (.iadd, 1) := by decide +kernel
theorem dX6_fit_99 : decode cX6_fit 99 = .ok (.iconst 1, 1) := by decide +kernel
theorem dX6_fit_100 : decode cX6_fit 100 = .ok (.iadd, 1) := by decide +kernel
theorem dX6_fit_101 : decode cX6_fit 101 = .ok (.laload, 1) := by decide +kernel
theorem dX6_fit_102 : decode cX6_fit 102 = .ok (.lconst 0, 1) := by decide +kernel
theorem dX6_fit_103 : decode cX6_fit 103 = .ok (.ldc2_w 81, 3) := by decide +kernel
theorem dX6_fit_106 : decode cX6_fit 106 = .ok (.invokestatic 75, 3) := by decide +kernel
theorem dX6_fit_109 : decode cX6_fit 109 = .ok (.ifCond .ne 6, 3) := by decide +kernel
theorem dX6_fit_112 : decode cX6_fit 112 = .ok (.bipush (-2), 2) := by decide +kernel
theorem dX6_fit_114 : decode cX6_fit 114 = .ok (.ireturn, 1) := by decide +kernel
theorem dX6_fit_115 : decode cX6_fit 115 = .ok (.iinc 7 1, 3) := by decide +kernel
theorem dX6_fit_118 : decode cX6_fit 118 = .ok (.goto (-63), 3) := by decide +kernel
theorem dX6_fit_121 : decode cX6_fit 121 = .ok (.iconst 0, 1) := by decide +kernel
theorem dX6_fit_122 : decode cX6_fit 122 = .ok (.istore 7, 2) := by decide +kernel
theorem dX6_fit_124 : decode cX6_fit 124 = .ok (.bipush (-9), 2) := by decide +kernel
theorem dX6_fit_126 : decode cX6_fit 126 = .ok (.istore 8, 2) := by decide +kernel
theorem dX6_fit_128 : decode cX6_fit 128 = .ok (.iload 8, 2) := by decide +kernel
theorem dX6_fit_130 : decode cX6_fit 130 = .ok (.bipush 9, 2) := by decide +kernel
theorem dX6_fit_132 : decode cX6_fit 132 = .ok (.if_icmp .gt 38, 3) := by decide +kernel
theorem dX6_fit_135 : decode cX6_fit 135 = .ok (.iload 7, 2) := by decide +kernel
theorem dX6_fit_137 : decode cX6_fit 137 = .ok (.aload_n 0, 1) := by decide +kernel
theorem dX6_fit_138 : decode cX6_fit 138 = .ok (.iload 6, 2) := by decide +kernel
theorem dX6_fit_140 : decode cX6_fit 140 = .ok (.iload 4, 2) := by decide +kernel
theorem dX6_fit_142 : decode cX6_fit 142 = .ok (.iload 8, 2) := by decide +kernel
theorem dX6_fit_144 : decode cX6_fit 144 = .ok (.invokevirtual 250, 3) := by decide +kernel
theorem dX6_fit_147 : decode cX6_fit 147 = .ok (.ifCond .eq 13, 3) := by decide +kernel
theorem dX6_fit_150 : decode cX6_fit 150 = .ok (.iconst 1, 1) := by decide +kernel
theorem dX6_fit_151 : decode cX6_fit 151 = .ok (.iload 8, 2) := by decide +kernel
theorem dX6_fit_153 : decode cX6_fit 153 = .ok (.bipush 9, 2) := by decide +kernel
theorem dX6_fit_155 : decode cX6_fit 155 = .ok (.iadd, 1) := by decide +kernel
theorem dX6_fit_156 : decode cX6_fit 156 = .ok (.ishl, 1) := by decide +kernel
theorem dX6_fit_157 : decode cX6_fit 157 = .ok (.goto 4, 3) := by decide +kernel
theorem dX6_fit_160 : decode cX6_fit 160 = .ok (.iconst 0, 1) := by decide +kernel
theorem dX6_fit_161 : decode cX6_fit 161 = .ok (.ior, 1) := by decide +kernel
theorem dX6_fit_162 : decode cX6_fit 162 = .ok (.istore 7, 2) := by decide +kernel
theorem dX6_fit_164 : decode cX6_fit 164 = .ok (.iinc 8 1, 3) := by decide +kernel
theorem dX6_fit_167 : decode cX6_fit 167 = .ok (.goto (-39), 3) := by decide +kernel
theorem dX6_fit_170 : decode cX6_fit 170 = .ok (.iload 7, 2) := by decide +kernel
theorem dX6_fit_172 : decode cX6_fit 172 = .ok (.ireturn, 1) := by decide +kernel
theorem dX6_film_0 : decode cX6_film 0 = .ok (.aload_n 0, 1) := by decide +kernel
theorem dX6_film_1 : decode cX6_film 1 = .ok (.iload_n 1, 1) := by decide +kernel
theorem dX6_film_2 : decode cX6_film 2 = .ok (.invokevirtual 91, 3) := by decide +kernel
theorem dX6_film_5 : decode cX6_film 5 = .ok (.ifCond .eq 11, 3) := by decide +kernel
theorem dX6_film_8 : decode cX6_film 8 = .ok (.iload_n 2, 1) := by decide +kernel
theorem dX6_film_9 : decode cX6_film 9 = .ok (.iload_n 3, 1) := by decide +kernel
theorem dX6_film_10 : decode cX6_film 10 = .ok (.invokestatic 239, 3) := by decide +kernel
theorem dX6_film_13 : decode cX6_film 13 = .ok (.ifCond .ne 5, 3) := by decide +kernel
theorem dX6_film_16 : decode cX6_film 16 = .ok (.iconst (-1), 1) := by decide +kernel
theorem dX6_film_17 : decode cX6_film 17 = .ok (.ireturn, 1) := by decide +kernel
theorem dX6_film_18 : decode cX6_film 18 = .ok (.aload_n 0, 1) := by decide +kernel
theorem dX6_film_19 : decode cX6_film 19 = .ok (.iload_n 2, 1) := by decide +kernel
theorem dX6_film_20 : decode cX6_film 20 = .ok (.iload_n 3, 1) := by decide +kernel
theorem dX6_film_21 : decode cX6_film 21 = .ok (.iload 4, 2) := by decide +kernel
theorem dX6_film_23 : decode cX6_film 23 = .ok (.bipush 19, 2) := by decide +kernel
theorem dX6_film_25 : decode cX6_film 25 = .ok (.invokevirtual 242, 3) := by decide +kernel
theorem dX6_film_28 : decode cX6_film 28 = .ok (.istore 5, 2) := by decide +kernel
theorem dX6_film_30 : decode cX6_film 30 = .ok (.iload 5, 2) := by decide +kernel
theorem dX6_film_32 : decode cX6_film 32 = .ok (.ifCond .ge 6, 3) := by decide +kernel
theorem dX6_film_35 : decode cX6_film 35 = .ok (.iload 5, 2) := by decide +kernel
theorem dX6_film_37 : decode cX6_film 37 = .ok (.ireturn, 1) := by decide +kernel
theorem dX6_film_38 : decode cX6_film 38 = .ok (.bipush (-9), 2) := by decide +kernel
theorem dX6_film_40 : decode cX6_film 40 = .ok (.istore 6, 2) := by decide +kernel
theorem dX6_film_42 : decode cX6_film 42 = .ok (.iload 6, 2) := by decide +kernel
theorem dX6_film_44 : decode cX6_film 44 = .ok (.bipush 9, 2) := by decide +kernel
theorem dX6_film_46 : decode cX6_film 46 = .ok (.if_icmp .gt 35, 3) := by decide +kernel
theorem dX6_film_49 : decode cX6_film 49 = .ok (.aload_n 0, 1) := by decide +kernel
theorem dX6_film_50 : decode cX6_film 50 = .ok (.getfield 65, 3) := by decide +kernel
theorem dX6_film_53 : decode cX6_film 53 = .ok (.bipush 24, 2) := by decide +kernel
theorem dX6_film_55 : decode cX6_film 55 = .ok (.iload_n 2, 1) := by decide +kernel
theorem dX6_film_56 : decode cX6_film 56 = .ok (.imul, 1) := by decide +kernel
theorem dX6_film_57 : decode cX6_film 57 = .ok (.iload 4, 2) := by decide +kernel
theorem dX6_film_59 : decode cX6_film 59 = .ok (.iadd, 1) := by decide +kernel
theorem dX6_film_60 : decode cX6_film 60 = .ok (.iload 6, 2) := by decide +kernel
theorem dX6_film_62 : decode cX6_film 62 = .ok (.iadd, 1) := by decide +kernel
theorem dX6_film_63 : decode cX6_film 63 = .ok (.bipush 9, 2) := by decide +kernel
theorem dX6_film_65 : decode cX6_film 65 = .ok (.iadd, 1) := by decide +kernel
theorem dX6_film_66 : decode cX6_film 66 = .ok (.aload_n 0, 1) := by decide +kernel
theorem dX6_film_67 : decode cX6_film 67 = .ok (.iload_n 1, 1) := by decide +kernel
theorem dX6_film_68 : decode cX6_film 68 = .ok (.iload 6, 2) := by decide +kernel
theorem dX6_film_70 : decode cX6_film 70 = .ok (.invokevirtual 222, 3) := by decide +kernel
theorem dX6_film_73 : decode cX6_film 73 = .ok (.i2l, 1) := by decide +kernel
theorem dX6_film_74 : decode cX6_film 74 = .ok (.lastore, 1) := by decide +kernel
theorem dX6_film_75 : decode cX6_film 75 = .ok (.iinc 6 1, 3) := by decide +kernel
theorem dX6_film_78 : decode cX6_film 78 = .ok (.goto (-36), 3) := by decide +kernel
theorem dX6_film_81 : decode cX6_film 81 = .ok (.bipush 19, 2) := by decide +kernel
theorem dX6_film_83 : decode cX6_film 83 = .ok (.ireturn, 1) := by decide +kernel
theorem dX6_copy_0 : decode cX6_copy 0 = .ok (.iload_n 1, 1) := by decide +kernel
theorem dX6_copy_1 : decode cX6_copy 1 = .ok (.i2l, 1) := by decide +kernel
theorem dX6_copy_2 : decode cX6_copy 2 = .ok (.lconst 0, 1) := by decide +kernel
theorem dX6_copy_3 : decode cX6_copy 3 = .ok (.ldc2_w 83, 3) := by decide +kernel
theorem dX6_copy_6 : decode cX6_copy 6 = .ok (.invokestatic 75, 3) := by decide +kernel
theorem dX6_copy_9 : decode cX6_copy 9 = .ok (.ifCond .eq 15, 3) := by decide +kernel
theorem dX6_copy_12 : decode cX6_copy 12 = .ok (.iload_n 3, 1) := by decide +kernel
theorem dX6_copy_13 : decode cX6_copy 13 = .ok (.i2l, 1) := by decide +kernel
theorem dX6_copy_14 : decode cX6_copy 14 = .ok (.lconst 0, 1) := by decide +kernel
theorem dX6_copy_15 : decode cX6_copy 15 = .ok (.ldc2_w 83, 3) := by decide +kernel
theorem dX6_copy_18 : decode cX6_copy 18 = .ok (.invokestatic 75, 3) := by decide +kernel
theorem dX6_copy_21 : decode cX6_copy 21 = .ok (.ifCond .ne 5, 3) := by decide +kernel
theorem dX6_copy_24 : decode cX6_copy 24 = .ok (.iconst (-1), 1) := by decide +kernel
theorem dX6_copy_25 : decode cX6_copy 25 = .ok (.ireturn, 1) := by decide +kernel
theorem dX6_copy_26 : decode cX6_copy 26 = .ok (.aload_n 0, 1) := by decide +kernel
theorem dX6_copy_27 : decode cX6_copy 27 = .ok (.getfield 59, 3) := by decide +kernel
theorem dX6_copy_30 : decode cX6_copy 30 = .ok (.iload_n 1, 1) := by decide +kernel
theorem dX6_copy_31 : decode cX6_copy 31 = .ok (.iaload, 1) := by decide +kernel
theorem dX6_copy_32 : decode cX6_copy 32 = .ok (.ifCond .lt 12, 3) := by decide +kernel
theorem dX6_copy_35 : decode cX6_copy 35 = .ok (.aload_n 0, 1) := by decide +kernel
theorem dX6_copy_36 : decode cX6_copy 36 = .ok (.getfield 59, 3) := by decide +kernel
theorem dX6_copy_39 : decode cX6_copy 39 = .ok (.iload_n 3, 1) := by decide +kernel
theorem dX6_copy_40 : decode cX6_copy 40 = .ok (.iaload, 1) := by decide +kernel
theorem dX6_copy_41 : decode cX6_copy 41 = .ok (.ifCond .ge 6, 3) := by decide +kernel
theorem dX6_copy_44 : decode cX6_copy 44 = .ok (.bipush (-11), 2) := by decide +kernel
theorem dX6_copy_46 : decode cX6_copy 46 = .ok (.ireturn, 1) := by decide +kernel
theorem dX6_copy_47 : decode cX6_copy 47 = .ok (.aload_n 0, 1) := by decide +kernel
theorem dX6_copy_48 : decode cX6_copy 48 = .ok (.getfield 59, 3) := by decide +kernel
theorem dX6_copy_51 : decode cX6_copy 51 = .ok (.iload_n 1, 1) := by decide +kernel
theorem dX6_copy_52 : decode cX6_copy 52 = .ok (.iaload, 1) := by decide +kernel
theorem dX6_copy_53 : decode cX6_copy 53 = .ok (.aload_n 0, 1) := by decide +kernel
theorem dX6_copy_54 : decode cX6_copy 54 = .ok (.getfield 59, 3) := by decide +kernel
theorem dX6_copy_57 : decode cX6_copy 57 = .ok (.iload_n 3, 1) := by decide +kernel
theorem dX6_copy_58 : decode cX6_copy 58 = .ok (.iaload, 1) := by decide +kernel
theorem dX6_copy_59 : decode cX6_copy 59 = .ok (.if_icmp .eq 6, 3) := by decide +kernel
theorem dX6_copy_62 : decode cX6_copy 62 = .ok (.bipush (-12), 2) := by decide +kernel
theorem dX6_copy_64 : decode cX6_copy 64 = .ok (.ireturn, 1) := by decide +kernel
theorem dX6_copy_65 : decode cX6_copy 65 = .ok (.iload 5, 2) := by decide +kernel
theorem dX6_copy_67 : decode cX6_copy 67 = .ok (.ifCond .lt 44, 3) := by decide +kernel
theorem dX6_copy_70 : decode cX6_copy 70 = .ok (.iload_n 2, 1) := by decide +kernel
theorem dX6_copy_71 : decode cX6_copy 71 = .ok (.i2l, 1) := by decide +kernel
theorem dX6_copy_72 : decode cX6_copy 72 = .ok (.lconst 0, 1) := by decide +kernel
theorem dX6_copy_73 : decode cX6_copy 73 = .ok (.aload_n 0, 1) := by decide +kernel
theorem dX6_copy_74 : decode cX6_copy 74 = .ok (.getfield 62, 3) := by decide +kernel
theorem dX6_copy_77 : decode cX6_copy 77 = .ok (.iload_n 1, 1) := by decide +kernel
theorem dX6_copy_78 : decode cX6_copy 78 = .ok (.iaload, 1) := by decide +kernel
theorem dX6_copy_79 : decode cX6_copy 79 = .ok (.i2l, 1) := by decide +kernel
theorem dX6_copy_80 : decode cX6_copy 80 = .ok (.iload 5, 2) := by decide +kernel
theorem dX6_copy_82 : decode cX6_copy 82 = .ok (.i2l, 1) := by decide +kernel
theorem dX6_copy_83 : decode cX6_copy 83 = .ok (.lsub, 1) := by decide +kernel
theorem dX6_copy_84 : decode cX6_copy 84 = .ok (.invokestatic 75, 3) := by decide +kernel
theorem dX6_copy_87 : decode cX6_copy 87 = .ok (.ifCond .eq 24, 3) := by decide +kernel
theorem dX6_copy_90 : decode cX6_copy 90 = .ok (.iload 4, 2) := by decide +kernel
theorem dX6_copy_92 : decode cX6_copy 92 = .ok (.i2l, 1) := by decide +kernel
theorem dX6_copy_93 : decode cX6_copy 93 = .ok (.lconst 0, 1) := by decide +kernel
theorem dX6_copy_94 : decode cX6_copy 94 = .ok (.aload_n 0, 1) := by decide +kernel
theorem dX6_copy_95 : decode cX6_copy 95 = .ok (.getfield 62, 3) := by decide +kernel
theorem dX6_copy_98 : decode cX6_copy 98 = .ok (.iload_n 3, 1) := by decide +kernel
theorem dX6_copy_99 : decode cX6_copy 99 = .ok (.iaload, 1) := by decide +kernel
theorem dX6_copy_100 : decode cX6_copy 100 = .ok (.i2l, 1) := by decide +kernel
theorem dX6_copy_101 : decode cX6_copy 101 = .ok (.iload 5, 2) := by decide +kernel
theorem dX6_copy_103 : decode cX6_copy 103 = .ok (.i2l, 1) := by decide +kernel
theorem dX6_copy_104 : decode cX6_copy 104 = .ok (.lsub, 1) := by decide +kernel
theorem dX6_copy_105 : decode cX6_copy 105 = .ok (.invokestatic 75, 3) := by decide +kernel
theorem dX6_copy_108 : decode cX6_copy 108 = .ok (.ifCond .ne 6, 3) := by decide +kernel
theorem dX6_copy_111 : decode cX6_copy 111 = .ok (.bipush (-13), 2) := by decide +kernel
theorem dX6_copy_113 : decode cX6_copy 113 = .ok (.ireturn, 1) := by decide +kernel
theorem dX6_copy_114 : decode cX6_copy 114 = .ok (.iconst 0, 1) := by decide +kernel
theorem dX6_copy_115 : decode cX6_copy 115 = .ok (.istore 6, 2) := by decide +kernel
theorem dX6_copy_117 : decode cX6_copy 117 = .ok (.iload 6, 2) := by decide +kernel
theorem dX6_copy_119 : decode cX6_copy 119 = .ok (.iload 5, 2) := by decide +kernel
theorem dX6_copy_121 : decode cX6_copy 121 = .ok (.if_icmp .ge 30, 3) := by decide +kernel
theorem dX6_copy_124 : decode cX6_copy 124 = .ok (.aload_n 0, 1) := by decide +kernel
theorem dX6_copy_125 : decode cX6_copy 125 = .ok (.getfield 69, 3) := by decide +kernel
theorem dX6_copy_128 : decode cX6_copy 128 = .ok (.iload 6, 2) := by decide +kernel
theorem dX6_copy_130 : decode cX6_copy 130 = .ok (.aload_n 0, 1) := by decide +kernel
theorem dX6_copy_131 : decode cX6_copy 131 = .ok (.getfield 65, 3) := by decide +kernel
theorem dX6_copy_134 : decode cX6_copy 134 = .ok (.bipush 24, 2) := by decide +kernel
theorem dX6_copy_136 : decode cX6_copy 136 = .ok (.iload_n 1, 1) := by decide +kernel
theorem dX6_copy_137 : decode cX6_copy 137 = .ok (.imul, 1) := by decide +kernel
theorem dX6_copy_138 : decode cX6_copy 138 = .ok (.iload_n 2, 1) := by decide +kernel
theorem dX6_copy_139 : decode cX6_copy 139 = .ok (.iadd, 1) := by decide +kernel
theorem dX6_copy_140 : decode cX6_copy 140 = .ok (.iload 6, 2) := by decide +kernel
theorem dX6_copy_142 : decode cX6_copy 142 = .ok (.iadd, 1) := by decide +kernel
theorem dX6_copy_143 : decode cX6_copy 143 = .ok (.laload, 1) := by decide +kernel
theorem dX6_copy_144 : decode cX6_copy 144 = .ok (.lastore, 1) := by decide +kernel
theorem dX6_copy_145 : decode cX6_copy 145 = .ok (.iinc 6 1, 3) := by decide +kernel
theorem dX6_copy_148 : decode cX6_copy 148 = .ok (.goto (-31), 3) := by decide +kernel
theorem dX6_copy_151 : decode cX6_copy 151 = .ok (.iconst 0, 1) := by decide +kernel
theorem dX6_copy_152 : decode cX6_copy 152 = .ok (.istore 6, 2) := by decide +kernel
theorem dX6_copy_154 : decode cX6_copy 154 = .ok (.iload 6, 2) := by decide +kernel
theorem dX6_copy_156 : decode cX6_copy 156 = .ok (.iload 5, 2) := by decide +kernel
theorem dX6_copy_158 : decode cX6_copy 158 = .ok (.if_icmp .ge 31, 3) := by decide +kernel
theorem dX6_copy_161 : decode cX6_copy 161 = .ok (.aload_n 0, 1) := by decide +kernel
theorem dX6_copy_162 : decode cX6_copy 162 = .ok (.getfield 65, 3) := by decide +kernel
theorem dX6_copy_165 : decode cX6_copy 165 = .ok (.bipush 24, 2) := by decide +kernel
theorem dX6_copy_167 : decode cX6_copy 167 = .ok (.iload_n 3, 1) := by decide +kernel
theorem dX6_copy_168 : decode cX6_copy 168 = .ok (.imul, 1) := by decide +kernel
theorem dX6_copy_169 : decode cX6_copy 169 = .ok (.iload 4, 2) := by decide +kernel
theorem dX6_copy_171 : decode cX6_copy 171 = .ok (.iadd, 1) := by decide +kernel
theorem dX6_copy_172 : decode cX6_copy 172 = .ok (.iload 6, 2) := by decide +kernel
theorem dX6_copy_174 : decode cX6_copy 174 = .ok (.iadd, 1) := by decide +kernel
theorem dX6_copy_175 : decode cX6_copy 175 = .ok (.aload_n 0, 1) := by decide +kernel
theorem dX6_copy_176 : decode cX6_copy 176 = .ok (.getfield 69, 3) := by decide +kernel
theorem dX6_copy_179 : decode cX6_copy 179 = .ok (.iload 6, 2) := by decide +kernel
theorem dX6_copy_181 : decode cX6_copy 181 = .ok (.laload, 1) := by decide +kernel
theorem dX6_copy_182 : decode cX6_copy 182 = .ok (.lastore, 1) := by decide +kernel
theorem dX6_copy_183 : decode cX6_copy 183 = .ok (.iinc 6 1, 3) := by decide +kernel
theorem dX6_copy_186 : decode cX6_copy 186 = .ok (.goto (-32), 3) := by decide +kernel
theorem dX6_copy_189 : decode cX6_copy 189 = .ok (.iload 5, 2) := by decide +kernel
theorem dX6_copy_191 : decode cX6_copy 191 = .ok (.ireturn, 1) := by decide +kernel
