theorem dX0_init_0 : decode cX0_init 0 = .ok (.aload_n 0, 1) := by decide +kernel
theorem dX0_init_1 : decode cX0_init 1 = .ok (.invokespecial 3, 3) := by decide +kernel
theorem dX0_init_4 : decode cX0_init 4 = .ok (.aload_n 0, 1) := by decide +kernel
theorem dX0_init_5 : decode cX0_init 5 = .ok (.bipush 6, 2) := by decide +kernel
theorem dX0_init_7 : decode cX0_init 7 = .ok (.newarray .int, 2) := by decide +kernel
theorem dX0_init_9 : decode cX0_init 9 = .ok (.putfield 9, 3) := by decide +kernel
theorem dX0_init_12 : decode cX0_init 12 = .ok (.aload_n 0, 1) := by decide +kernel
theorem dX0_init_13 : decode cX0_init 13 = .ok (.bipush 6, 2) := by decide +kernel
theorem dX0_init_15 : decode cX0_init 15 = .ok (.newarray .int, 2) := by decide +kernel
theorem dX0_init_17 : decode cX0_init 17 = .ok (.putfield 15, 3) := by decide +kernel
theorem dX0_init_20 : decode cX0_init 20 = .ok (.aload_n 0, 1) := by decide +kernel
theorem dX0_init_21 : decode cX0_init 21 = .ok (.bipush 6, 2) := by decide +kernel
theorem dX0_init_23 : decode cX0_init 23 = .ok (.newarray .int, 2) := by decide +kernel
theorem dX0_init_25 : decode cX0_init 25 = .ok (.putfield 18, 3) := by decide +kernel
theorem dX0_init_28 : decode cX0_init 28 = .ok (.aload_n 0, 1) := by decide +kernel
theorem dX0_init_29 : decode cX0_init 29 = .ok (.bipush 6, 2) := by decide +kernel
theorem dX0_init_31 : decode cX0_init 31 = .ok (.newarray .int, 2) := by decide +kernel
theorem dX0_init_33 : decode cX0_init 33 = .ok (.putfield 21, 3) := by decide +kernel
theorem dX0_init_36 : decode cX0_init 36 = .ok (.aload_n 0, 1) := by decide +kernel
theorem dX0_init_37 : decode cX0_init 37 = .ok (.iconst 0, 1) := by decide +kernel
theorem dX0_init_38 : decode cX0_init 38 = .ok (.putfield 24, 3) := by decide +kernel
theorem dX0_init_41 : decode cX0_init 41 = .ok (.return_, 1) := by decide +kernel
theorem dX0_has_0 : decode cX0_has 0 = .ok (.iload_n 1, 1) := by decide +kernel
theorem dX0_has_1 : decode cX0_has 1 = .ok (.ifCond .lt 15, 3) := by decide +kernel
theorem dX0_has_4 : decode cX0_has 4 = .ok (.iload_n 1, 1) := by decide +kernel
theorem dX0_has_5 : decode cX0_has 5 = .ok (.aload_n 0, 1) := by decide +kernel
theorem dX0_has_6 : decode cX0_has 6 = .ok (.getfield 24, 3) := by decide +kernel
theorem dX0_has_9 : decode cX0_has 9 = .ok (.if_icmp .ge 7, 3) := by decide +kernel
theorem dX0_has_12 : decode cX0_has 12 = .ok (.iconst 1, 1) := by decide +kernel
theorem dX0_has_13 : decode cX0_has 13 = .ok (.goto 4, 3) := by decide +kernel
theorem dX0_has_16 : decode cX0_has 16 = .ok (.iconst 0, 1) := by decide +kernel
theorem dX0_has_17 : decode cX0_has 17 = .ok (.ireturn, 1) := by decide +kernel
theorem dX0_add_0 : decode cX0_add 0 = .ok (.aload_n 0, 1) := by decide +kernel
theorem dX0_add_1 : decode cX0_add 1 = .ok (.getfield 24, 3) := by decide +kernel
theorem dX0_add_4 : decode cX0_add 4 = .ok (.istore 4, 2) := by decide +kernel
theorem dX0_add_6 : decode cX0_add 6 = .ok (.iload 4, 2) := by decide +kernel
theorem dX0_add_8 : decode cX0_add 8 = .ok (.bipush 6, 2) := by decide +kernel
theorem dX0_add_10 : decode cX0_add 10 = .ok (.if_icmp .lt 6, 3) := by decide +kernel
theorem dX0_add_13 : decode cX0_add 13 = .ok (.bipush (-3), 2) := by decide +kernel
theorem dX0_add_15 : decode cX0_add 15 = .ok (.ireturn, 1) := by decide +kernel
theorem dX0_add_16 : decode cX0_add 16 = .ok (.aload_n 0, 1) := by decide +kernel
theorem dX0_add_17 : decode cX0_add 17 = .ok (.getfield 9, 3) := by decide +kernel
theorem dX0_add_20 : decode cX0_add 20 = .ok (.iload 4, 2) := by decide +kernel
theorem dX0_add_22 : decode cX0_add 22 = .ok (.iload_n 1, 1) := by decide +kernel
theorem dX0_add_23 : decode cX0_add 23 = .ok (.iastore, 1) := by decide +kernel
theorem dX0_add_24 : decode cX0_add 24 = .ok (.aload_n 0, 1) := by decide +kernel
theorem dX0_add_25 : decode cX0_add 25 = .ok (.getfield 15, 3) := by decide +kernel
theorem dX0_add_28 : decode cX0_add 28 = .ok (.iload 4, 2) := by decide +kernel
theorem dX0_add_30 : decode cX0_add 30 = .ok (.iload_n 2, 1) := by decide +kernel
theorem dX0_add_31 : decode cX0_add 31 = .ok (.iastore, 1) := by decide +kernel
theorem dX0_add_32 : decode cX0_add 32 = .ok (.aload_n 0, 1) := by decide +kernel
theorem dX0_add_33 : decode cX0_add 33 = .ok (.getfield 18, 3) := by decide +kernel
theorem dX0_add_36 : decode cX0_add 36 = .ok (.iload 4, 2) := by decide +kernel
theorem dX0_add_38 : decode cX0_add 38 = .ok (.iload_n 3, 1) := by decide +kernel
theorem dX0_add_39 : decode cX0_add 39 = .ok (.iastore, 1) := by decide +kernel
theorem dX0_add_40 : decode cX0_add 40 = .ok (.aload_n 0, 1) := by decide +kernel
theorem dX0_add_41 : decode cX0_add 41 = .ok (.getfield 21, 3) := by decide +kernel
theorem dX0_add_44 : decode cX0_add 44 = .ok (.iload 4, 2) := by decide +kernel
theorem dX0_add_46 : decode cX0_add 46 = .ok (.iconst 0, 1) := by decide +kernel
theorem dX0_add_47 : decode cX0_add 47 = .ok (.iastore, 1) := by decide +kernel
theorem dX0_add_48 : decode cX0_add 48 = .ok (.aload_n 0, 1) := by decide +kernel
theorem dX0_add_49 : decode cX0_add 49 = .ok (.iload 4, 2) := by decide +kernel
theorem dX0_add_51 : decode cX0_add 51 = .ok (.iconst 1, 1) := by decide +kernel
theorem dX0_add_52 : decode cX0_add 52 = .ok (.iadd, 1) := by decide +kernel
theorem dX0_add_53 : decode cX0_add 53 = .ok (.putfield 24, 3) := by decide +kernel
theorem dX0_add_56 : decode cX0_add 56 = .ok (.iload 4, 2) := by decide +kernel
theorem dX0_add_58 : decode cX0_add 58 = .ok (.ireturn, 1) := by decide +kernel
theorem dX0_become_0 : decode cX0_become 0 = .ok (.iconst 0, 1) := by decide +kernel
theorem dX0_become_1 : decode cX0_become 1 = .ok (.istore_n 2, 1) := by decide +kernel
theorem dX0_become_2 : decode cX0_become 2 = .ok (.iload_n 2, 1) := by decide +kernel
theorem dX0_become_3 : decode cX0_become 3 = .ok (.bipush 6, 2) := by decide +kernel
theorem dX0_become_5 : decode cX0_become 5 = .ok (.if_icmp .ge 57, 3) := by decide +kernel
theorem dX0_become_8 : decode cX0_become 8 = .ok (.aload_n 0, 1) := by decide +kernel
theorem dX0_become_9 : decode cX0_become 9 = .ok (.getfield 9, 3) := by decide +kernel
theorem dX0_become_12 : decode cX0_become 12 = .ok (.iload_n 2, 1) := by decide +kernel
theorem dX0_become_13 : decode cX0_become 13 = .ok (.aload_n 1, 1) := by decide +kernel
theorem dX0_become_14 : decode cX0_become 14 = .ok (.getfield 9, 3) := by decide +kernel
theorem dX0_become_17 : decode cX0_become 17 = .ok (.iload_n 2, 1) := by decide +kernel
theorem dX0_become_18 : decode cX0_become 18 = .ok (.iaload, 1) := by decide +kernel
theorem dX0_become_19 : decode cX0_become 19 = .ok (.iastore, 1) := by decide +kernel
theorem dX0_become_20 : decode cX0_become 20 = .ok (.aload_n 0, 1) := by decide +kernel
theorem dX0_become_21 : decode cX0_become 21 = .ok (.getfield 15, 3) := by decide +kernel
theorem dX0_become_24 : decode cX0_become 24 = .ok (.iload_n 2, 1) := by decide +kernel
theorem dX0_become_25 : decode cX0_become 25 = .ok (.aload_n 1, 1) := by decide +kernel
theorem dX0_become_26 : decode cX0_become 26 = .ok (.getfield 15, 3) := by decide +kernel
theorem dX0_become_29 : decode cX0_become 29 = .ok (.iload_n 2, 1) := by decide +kernel
theorem dX0_become_30 : decode cX0_become 30 = .ok (.iaload, 1) := by decide +kernel
theorem dX0_become_31 : decode cX0_become 31 = .ok (.iastore, 1) := by decide +kernel
theorem dX0_become_32 : decode cX0_become 32 = .ok (.aload_n 0, 1) := by decide +kernel
theorem dX0_become_33 : decode cX0_become 33 = .ok (.getfield 18, 3) := by decide +kernel
theorem dX0_become_36 : decode cX0_become 36 = .ok (.iload_n 2, 1) := by decide +kernel
theorem dX0_become_37 : decode cX0_become 37 = .ok (.aload_n 1, 1) := by decide +kernel
theorem dX0_become_38 : decode cX0_become 38 = .ok (.getfield 18, 3) := by decide +kernel
theorem dX0_become_41 : decode cX0_become 41 = .ok (.iload_n 2, 1) := by decide +kernel
theorem dX0_become_42 : decode cX0_become 42 = .ok (.iaload, 1) := by decide +kernel
theorem dX0_become_43 : decode cX0_become 43 = .ok (.iastore, 1) := by decide +kernel
theorem dX0_become_44 : decode cX0_become 44 = .ok (.aload_n 0, 1) := by decide +kernel
theorem dX0_become_45 : decode cX0_become 45 = .ok (.getfield 21, 3) := by decide +kernel
theorem dX0_become_48 : decode cX0_become 48 = .ok (.iload_n 2, 1) := by decide +kernel
theorem dX0_become_49 : decode cX0_become 49 = .ok (.aload_n 1, 1) := by decide +kernel
theorem dX0_become_50 : decode cX0_become 50 = .ok (.getfield 21, 3) := by decide +kernel
theorem dX0_become_53 : decode cX0_become 53 = .ok (.iload_n 2, 1) := by decide +kernel
theorem dX0_become_54 : decode cX0_become 54 = .ok (.iaload, 1) := by decide +kernel
theorem dX0_become_55 : decode cX0_become 55 = .ok (.iastore, 1) := by decide +kernel
theorem dX0_become_56 : decode cX0_become 56 = .ok (.iinc 2 1, 3) := by decide +kernel
theorem dX0_become_59 : decode cX0_become 59 = .ok (.goto (-57), 3) := by decide +kernel
theorem dX0_become_62 : decode cX0_become 62 = .ok (.aload_n 0, 1) := by decide +kernel
theorem dX0_become_63 : decode cX0_become 63 = .ok (.aload_n 1, 1) := by decide +kernel
theorem dX0_become_64 : decode cX0_become 64 = .ok (.getfield 24, 3) := by decide +kernel
theorem dX0_become_67 : decode cX0_become 67 = .ok (.putfield 24, 3) := by decide +kernel
theorem dX0_become_70 : decode cX0_become 70 = .ok (.return_, 1) := by decide +kernel
theorem dX0_areFoes_0 : decode cX0_areFoes 0 = .ok (.aload_n 0, 1) := by decide +kernel
theorem dX0_areFoes_1 : decode cX0_areFoes 1 = .ok (.iload_n 1, 1) := by decide +kernel
theorem dX0_areFoes_2 : decode cX0_areFoes 2 = .ok (.invokevirtual 28, 3) := by decide +kernel
theorem dX0_areFoes_5 : decode cX0_areFoes 5 = .ok (.ifCond .eq 29, 3) := by decide +kernel
theorem dX0_areFoes_8 : decode cX0_areFoes 8 = .ok (.aload_n 0, 1) := by decide +kernel
theorem dX0_areFoes_9 : decode cX0_areFoes 9 = .ok (.iload_n 2, 1) := by decide +kernel
theorem dX0_areFoes_10 : decode cX0_areFoes 10 = .ok (.invokevirtual 28, 3) := by decide +kernel
theorem dX0_areFoes_13 : decode cX0_areFoes 13 = .ok (.ifCond .eq 21, 3) := by decide +kernel
theorem dX0_areFoes_16 : decode cX0_areFoes 16 = .ok (.aload_n 0, 1) := by decide +kernel
theorem dX0_areFoes_17 : decode cX0_areFoes 17 = .ok (.getfield 21, 3) := by decide +kernel
theorem dX0_areFoes_20 : decode cX0_areFoes 20 = .ok (.iload_n 1, 1) := by decide +kernel
theorem dX0_areFoes_21 : decode cX0_areFoes 21 = .ok (.iaload, 1) := by decide +kernel
theorem dX0_areFoes_22 : decode cX0_areFoes 22 = .ok (.iload_n 2, 1) := by decide +kernel
theorem dX0_areFoes_23 : decode cX0_areFoes 23 = .ok (.ishr, 1) := by decide +kernel
theorem dX0_areFoes_24 : decode cX0_areFoes 24 = .ok (.iconst 1, 1) := by decide +kernel
theorem dX0_areFoes_25 : decode cX0_areFoes 25 = .ok (.iand, 1) := by decide +kernel
theorem dX0_areFoes_26 : decode cX0_areFoes 26 = .ok (.iconst 1, 1) := by decide +kernel
theorem dX0_areFoes_27 : decode cX0_areFoes 27 = .ok (.if_icmp .ne 7, 3) := by decide +kernel
theorem dX0_areFoes_30 : decode cX0_areFoes 30 = .ok (.iconst 1, 1) := by decide +kernel
theorem dX0_areFoes_31 : decode cX0_areFoes 31 = .ok (.goto 4, 3) := by decide +kernel
theorem dX0_areFoes_34 : decode cX0_areFoes 34 = .ok (.iconst 0, 1) := by decide +kernel
theorem dX0_areFoes_35 : decode cX0_areFoes 35 = .ok (.ireturn, 1) := by decide +kernel
theorem dX0_makeFoes_0 : decode cX0_makeFoes 0 = .ok (.aload_n 0, 1) := by decide +kernel
theorem dX0_makeFoes_1 : decode cX0_makeFoes 1 = .ok (.iload_n 1, 1) := by decide +kernel
theorem dX0_makeFoes_2 : decode cX0_makeFoes 2 = .ok (.invokevirtual 28, 3) := by decide +kernel
theorem dX0_makeFoes_5 : decode cX0_makeFoes 5 = .ok (.ifCond .eq 11, 3) := by decide +kernel
theorem dX0_makeFoes_8 : decode cX0_makeFoes 8 = .ok (.aload_n 0, 1) := by decide +kernel
theorem dX0_makeFoes_9 : decode cX0_makeFoes 9 = .ok (.iload_n 2, 1) := by decide +kernel
theorem dX0_makeFoes_10 : decode cX0_makeFoes 10 = .ok (.invokevirtual 28, 3) := by decide +kernel
theorem dX0_makeFoes_13 : decode cX0_makeFoes 13 = .ok (.ifCond .ne 4, 3) := by decide +kernel
theorem dX0_makeFoes_16 : decode cX0_makeFoes 16 = .ok (.return_, 1) := by decide +kernel
theorem dX0_makeFoes_17 : decode cX0_makeFoes 17 = .ok (.aload_n 0, 1) := by decide +kernel
theorem dX0_makeFoes_18 : decode cX0_makeFoes 18 = .ok (.getfield 21, 3) := by decide +kernel
theorem dX0_makeFoes_21 : decode cX0_makeFoes 21 = .ok (.iload_n 1, 1) := by decide +kernel
theorem dX0_makeFoes_22 : decode cX0_makeFoes 22 = .ok (.iload_n 3, 1) := by decide +kernel
theorem dX0_makeFoes_23 : decode cX0_makeFoes 23 = .ok (.ifCond .eq 16, 3) := by decide +kernel
theorem dX0_makeFoes_26 : decode cX0_makeFoes 26 = .ok (.aload_n 0, 1) := by decide +kernel
theorem dX0_makeFoes_27 : decode cX0_makeFoes 27 = .ok (.getfield 21, 3) := by decide +kernel
theorem dX0_makeFoes_30 : decode cX0_makeFoes 30 = .ok (.iload_n 1, 1) := by decide +kernel
theorem dX0_makeFoes_31 : decode cX0_makeFoes 31 = .ok (.iaload, 1) := by decide +kernel
theorem dX0_makeFoes_32 : decode cX0_makeFoes 32 = .ok (.iconst 1, 1) := by decide +kernel
theorem dX0_makeFoes_33 : decode cX0_makeFoes 33 = .ok (.iload_n 2, 1) := by decide +kernel
theorem dX0_makeFoes_34 : decode cX0_makeFoes 34 = .ok (.ishl, 1) := by decide +kernel
theorem dX0_makeFoes_35 : decode cX0_makeFoes 35 = .ok (.ior, 1) := by decide +kernel
theorem dX0_makeFoes_36 : decode cX0_makeFoes 36 = .ok (.goto 15, 3) := by decide +kernel
theorem dX0_makeFoes_39 : decode cX0_makeFoes 39 = .ok (.aload_n 0, 1) := by decide +kernel
theorem dX0_makeFoes_40 : decode cX0_makeFoes 40 = .ok (.getfield 21, 3) := by decide +kernel
theorem dX0_makeFoes_43 : decode cX0_makeFoes 43 = .ok (.iload_n 1, 1) := by decide +kernel
theorem dX0_makeFoes_44 : decode cX0_makeFoes 44 = .ok (.iaload, 1) := by decide +kernel
theorem dX0_makeFoes_45 : decode cX0_makeFoes 45 = .ok (.iconst 1, 1) := by decide +kernel
theorem dX0_makeFoes_46 : decode cX0_makeFoes 46 = .ok (.iload_n 2, 1) := by decide +kernel
theorem dX0_makeFoes_47 : decode cX0_makeFoes 47 = .ok (.ishl, 1) := by decide +kernel
theorem dX0_makeFoes_48 : decode cX0_makeFoes 48 = .ok (.iconst (-1), 1) := by decide +kernel
theorem dX0_makeFoes_49 : decode cX0_makeFoes 49 = .ok (.ixor, 1) := by decide +kernel
theorem dX0_makeFoes_50 : decode cX0_makeFoes 50 = .ok (.iand, 1) := by decide +kernel
theorem dX0_makeFoes_51 : decode cX0_makeFoes 51 = .ok (.iastore, 1) := by decide +kernel
theorem dX0_makeFoes_52 : decode cX0_makeFoes 52 = .ok (.aload_n 0, 1) := by decide +kernel
theorem dX0_makeFoes_53 : decode cX0_makeFoes 53 = .ok (.getfield 21, 3) := by decide +kernel
theorem dX0_makeFoes_56 : decode cX0_makeFoes 56 = .ok (.iload_n 2, 1) := by decide +kernel
theorem dX0_makeFoes_57 : decode cX0_makeFoes 57 = .ok (.iload_n 3, 1) := by decide +kernel
theorem dX0_makeFoes_58 : decode cX0_makeFoes 58 = .ok (.ifCond .eq 16, 3) := by decide +kernel
theorem dX0_makeFoes_61 : decode cX0_makeFoes 61 = .ok (.aload_n 0, 1) := by decide +kernel
theorem dX0_makeFoes_62 : decode cX0_makeFoes 62 = .ok (.getfield 21, 3) := by decide +kernel
theorem dX0_makeFoes_65 : decode cX0_makeFoes 65 = .ok (.iload_n 2, 1) := by decide +kernel
theorem dX0_makeFoes_66 : decode cX0_makeFoes 66 = .ok (.iaload, 1) := by decide +kernel
theorem dX0_makeFoes_67 : decode cX0_makeFoes 67 = .ok (.iconst 1, 1) := by decide +kernel
theorem dX0_makeFoes_68 : decode cX0_makeFoes 68 = .ok (.iload_n 1, 1) := by decide +kernel
theorem dX0_makeFoes_69 : decode cX0_makeFoes 69 = .ok (.ishl, 1) := by decide +kernel
theorem dX0_makeFoes_70 : decode cX0_makeFoes 70 = .ok (.ior, 1) := by decide +kernel
theorem dX0_makeFoes_71 : decode cX0_makeFoes 71 = .ok (.goto 15, 3) := by decide +kernel
theorem dX0_makeFoes_74 : decode cX0_makeFoes 74 = .ok (.aload_n 0, 1) := by decide +kernel
theorem dX0_makeFoes_75 : decode cX0_makeFoes 75 = .ok (.getfield 21, 3) := by decide +kernel
theorem dX0_makeFoes_78 : decode cX0_makeFoes 78 = .ok (.iload_n 2, 1) := by decide +kernel
theorem dX0_makeFoes_79 : decode cX0_makeFoes 79 = .ok (.iaload, 1) := by decide +kernel
theorem dX0_makeFoes_80 : decode cX0_makeFoes 80 = .ok (.iconst 1, 1) := by decide +kernel
theorem dX0_makeFoes_81 : decode cX0_makeFoes 81 = .ok (.iload_n 1, 1) := by decide +kernel
theorem dX0_makeFoes_82 : decode cX0_makeFoes 82 = .ok (.ishl, 1) := by decide +kernel
theorem dX0_makeFoes_83 : decode cX0_makeFoes 83 = .ok (.iconst (-1), 1) := by decide +kernel
theorem dX0_makeFoes_84 : decode cX0_makeFoes 84 = .ok (.ixor, 1) := by decide +kernel
theorem dX0_makeFoes_85 : decode cX0_makeFoes 85 = .ok (.iand, 1) := by decide +kernel
theorem dX0_makeFoes_86 : decode cX0_makeFoes 86 = .ok (.iastore, 1) := by decide +kernel
theorem dX0_makeFoes_87 : decode cX0_makeFoes 87 = .ok (.return_, 1) := by decide +kernel
theorem dX0_pailsAt_0 : decode cX0_pailsAt 0 = .ok (.iconst 4, 1) := by decide +kernel
theorem dX0_pailsAt_1 : decode cX0_pailsAt 1 = .ok (.istore_n 3, 1) := by decide +kernel
theorem dX0_pailsAt_2 : decode cX0_pailsAt 2 = .ok (.aload_n 0, 1) := by decide +kernel
theorem dX0_pailsAt_3 : decode cX0_pailsAt 3 = .ok (.getfield 9, 3) := by decide +kernel
theorem dX0_pailsAt_6 : decode cX0_pailsAt 6 = .ok (.iload_n 1, 1) := by decide +kernel
theorem dX0_pailsAt_7 : decode cX0_pailsAt 7 = .ok (.iaload, 1) := by decide +kernel
theorem dX0_pailsAt_8 : decode cX0_pailsAt 8 = .ok (.iconst 1, 1) := by decide +kernel
theorem dX0_pailsAt_9 : decode cX0_pailsAt 9 = .ok (.if_icmp .ne 8, 3) := by decide +kernel
theorem dX0_pailsAt_12 : decode cX0_pailsAt 12 = .ok (.iconst 5, 1) := by decide +kernel
theorem dX0_pailsAt_13 : decode cX0_pailsAt 13 = .ok (.istore_n 3, 1) := by decide +kernel
theorem dX0_pailsAt_14 : decode cX0_pailsAt 14 = .ok (.goto 15, 3) := by decide +kernel
theorem dX0_pailsAt_17 : decode cX0_pailsAt 17 = .ok (.aload_n 0, 1) := by decide +kernel
theorem dX0_pailsAt_18 : decode cX0_pailsAt 18 = .ok (.getfield 9, 3) := by decide +kernel
theorem dX0_pailsAt_21 : decode cX0_pailsAt 21 = .ok (.iload_n 1, 1) := by decide +kernel
theorem dX0_pailsAt_22 : decode cX0_pailsAt 22 = .ok (.iaload, 1) := by decide +kernel
theorem dX0_pailsAt_23 : decode cX0_pailsAt 23 = .ok (.iconst 3, 1) := by decide +kernel
theorem dX0_pailsAt_24 : decode cX0_pailsAt 24 = .ok (.if_icmp .ne 5, 3) := by decide +kernel
theorem dX0_pailsAt_27 : decode cX0_pailsAt 27 = .ok (.iconst 2, 1) := by decide +kernel
theorem dX0_pailsAt_28 : decode cX0_pailsAt 28 = .ok (.istore_n 3, 1) := by decide +kernel
theorem dX0_pailsAt_29 : decode cX0_pailsAt 29 = .ok (.iconst 0, 1) := by decide +kernel
theorem dX0_pailsAt_30 : decode cX0_pailsAt 30 = .ok (.bipush 9, 2) := by decide +kernel
theorem dX0_pailsAt_32 : decode cX0_pailsAt 32 = .ok (.iload_n 3, 1) := by decide +kernel
theorem dX0_pailsAt_33 : decode cX0_pailsAt 33 = .ok (.iload_n 2, 1) := by decide +kernel
theorem dX0_pailsAt_34 : decode cX0_pailsAt 34 = .ok (.iadd, 1) := by decide +kernel
theorem dX0_pailsAt_35 : decode cX0_pailsAt 35 = .ok (.invokestatic 32, 3) := by decide +kernel
theorem dX0_pailsAt_38 : decode cX0_pailsAt 38 = .ok (.invokestatic 38, 3) := by decide +kernel
theorem dX0_pailsAt_41 : decode cX0_pailsAt 41 = .ok (.ireturn, 1) := by decide +kernel
theorem dX0_pailsBehind_0 : decode cX0_pailsBehind 0 = .ok (.aload_n 0, 1) := by decide +kernel
theorem dX0_pailsBehind_1 : decode cX0_pailsBehind 1 = .ok (.iload_n 1, 1) := by decide +kernel
theorem dX0_pailsBehind_2 : decode cX0_pailsBehind 2 = .ok (.iload_n 2, 1) := by decide +kernel
theorem dX0_pailsBehind_3 : decode cX0_pailsBehind 3 = .ok (.invokevirtual 41, 3) := by decide +kernel
theorem dX0_pailsBehind_6 : decode cX0_pailsBehind 6 = .ok (.ifCond .eq 7, 3) := by decide +kernel
theorem dX0_pailsBehind_9 : decode cX0_pailsBehind 9 = .ok (.iconst 0, 1) := by decide +kernel
theorem dX0_pailsBehind_10 : decode cX0_pailsBehind 10 = .ok (.goto 14, 3) := by decide +kernel
theorem dX0_pailsBehind_13 : decode cX0_pailsBehind 13 = .ok (.iload 4, 2) := by decide +kernel
theorem dX0_pailsBehind_15 : decode cX0_pailsBehind 15 = .ok (.aload_n 0, 1) := by decide +kernel
theorem dX0_pailsBehind_16 : decode cX0_pailsBehind 16 = .ok (.iload_n 2, 1) := by decide +kernel
theorem dX0_pailsBehind_17 : decode cX0_pailsBehind 17 = .ok (.iload_n 3, 1) := by decide +kernel
theorem dX0_pailsBehind_18 : decode cX0_pailsBehind 18 = .ok (.invokevirtual 45, 3) := by decide +kernel
theorem dX0_pailsBehind_21 : decode cX0_pailsBehind 21 = .ok (.invokestatic 32, 3) := by decide +kernel
theorem dX0_pailsBehind_24 : decode cX0_pailsBehind 24 = .ok (.ireturn, 1) := by decide +kernel
theorem dX0_isSweet_0 : decode cX0_isSweet 0 = .ok (.aload_n 0, 1) := by decide +kernel
theorem dX0_isSweet_1 : decode cX0_isSweet 1 = .ok (.getfield 9, 3) := by decide +kernel
theorem dX0_isSweet_4 : decode cX0_isSweet 4 = .ok (.iload_n 1, 1) := by decide +kernel
theorem dX0_isSweet_5 : decode cX0_isSweet 5 = .ok (.iaload, 1) := by decide +kernel
theorem dX0_isSweet_6 : decode cX0_isSweet 6 = .ok (.iconst 1, 1) := by decide +kernel
theorem dX0_isSweet_7 : decode cX0_isSweet 7 = .ok (.if_icmp .eq 16, 3) := by decide +kernel
theorem dX0_isSweet_10 : decode cX0_isSweet 10 = .ok (.aload_n 0, 1) := by decide +kernel
theorem dX0_isSweet_11 : decode cX0_isSweet 11 = .ok (.getfield 9, 3) := by decide +kernel
theorem dX0_isSweet_14 : decode cX0_isSweet 14 = .ok (.iload_n 1, 1) := by decide +kernel
theorem dX0_isSweet_15 : decode cX0_isSweet 15 = .ok (.iaload, 1) := by decide +kernel
theorem dX0_isSweet_16 : decode cX0_isSweet 16 = .ok (.ifCond .ne 11, 3) := by decide +kernel
theorem dX0_isSweet_19 : decode cX0_isSweet 19 = .ok (.iload_n 2, 1) := by decide +kernel
theorem dX0_isSweet_20 : decode cX0_isSweet 20 = .ok (.ifCond .lt 7, 3) := by decide +kernel
theorem dX0_isSweet_23 : decode cX0_isSweet 23 = .ok (.iconst 1, 1) := by decide +kernel
theorem dX0_isSweet_24 : decode cX0_isSweet 24 = .ok (.goto 4, 3) := by decide +kernel
theorem dX0_isSweet_27 : decode cX0_isSweet 27 = .ok (.iconst 0, 1) := by decide +kernel
theorem dX0_isSweet_28 : decode cX0_isSweet 28 = .ok (.ireturn, 1) := by decide +kernel
theorem dX0_moodBehind_0 : decode cX0_moodBehind 0 = .ok (.aload_n 0, 1) := by decide +kernel
theorem dX0_moodBehind_1 : decode cX0_moodBehind 1 = .ok (.getfield 9, 3) := by decide +kernel
theorem dX0_moodBehind_4 : decode cX0_moodBehind 4 = .ok (.iload_n 1, 1) := by decide +kernel
theorem dX0_moodBehind_5 : decode cX0_moodBehind 5 = .ok (.iaload, 1) := by decide +kernel
theorem dX0_moodBehind_6 : decode cX0_moodBehind 6 = .ok (.iconst 3, 1) := by decide +kernel
theorem dX0_moodBehind_7 : decode cX0_moodBehind 7 = .ok (.if_icmp .ne 14, 3) := by decide +kernel
theorem dX0_moodBehind_10 : decode cX0_moodBehind 10 = .ok (.iload_n 2, 1) := by decide +kernel
theorem dX0_moodBehind_11 : decode cX0_moodBehind 11 = .ok (.aload_n 0, 1) := by decide +kernel
theorem dX0_moodBehind_12 : decode cX0_moodBehind 12 = .ok (.getfield 15, 3) := by decide +kernel
theorem dX0_moodBehind_15 : decode cX0_moodBehind 15 = .ok (.iload_n 1, 1) := by decide +kernel
theorem dX0_moodBehind_16 : decode cX0_moodBehind 16 = .ok (.iaload, 1) := by decide +kernel
theorem dX0_moodBehind_17 : decode cX0_moodBehind 17 = .ok (.isub, 1) := by decide +kernel
theorem dX0_moodBehind_18 : decode cX0_moodBehind 18 = .ok (.goto 11, 3) := by decide +kernel
theorem dX0_moodBehind_21 : decode cX0_moodBehind 21 = .ok (.iload_n 2, 1) := by decide +kernel
theorem dX0_moodBehind_22 : decode cX0_moodBehind 22 = .ok (.aload_n 0, 1) := by decide +kernel
theorem dX0_moodBehind_23 : decode cX0_moodBehind 23 = .ok (.getfield 15, 3) := by decide +kernel
theorem dX0_moodBehind_26 : decode cX0_moodBehind 26 = .ok (.iload_n 1, 1) := by decide +kernel
theorem dX0_moodBehind_27 : decode cX0_moodBehind 27 = .ok (.iaload, 1) := by decide +kernel
theorem dX0_moodBehind_28 : decode cX0_moodBehind 28 = .ok (.iadd, 1) := by decide +kernel
theorem dX0_moodBehind_29 : decode cX0_moodBehind 29 = .ok (.invokestatic 48, 3) := by decide +kernel
theorem dX0_moodBehind_32 : decode cX0_moodBehind 32 = .ok (.ireturn, 1) := by decide +kernel
theorem dX1_init_0 : decode cX1_init 0 = .ok (.aload_n 0, 1) := by decide +kernel
theorem dX1_init_1 : decode cX1_init 1 = .ok (.invokespecial 3, 3) := by decide +kernel
theorem dX1_init_4 : decode cX1_init 4 = .ok (.aload_n 0, 1) := by decide +kernel
theorem dX1_init_5 : decode cX1_init 5 = .ok (.new 9, 3) := by decide +kernel
theorem dX1_init_8 : decode cX1_init 8 = .ok (.dup, 1) := by decide +kernel
theorem dX1_init_9 : decode cX1_init 9 = .ok (.invokespecial 11, 3) := by decide +kernel
theorem dX1_init_12 : decode cX1_init 12 = .ok (.putfield 12, 3) := by decide +kernel
theorem dX1_init_15 : decode cX1_init 15 = .ok (.aload_n 0, 1) := by decide +kernel
theorem dX1_init_16 : decode cX1_init 16 = .ok (.bipush 6, 2) := by decide +kernel
theorem dX1_init_18 : decode cX1_init 18 = .ok (.newarray .int, 2) := by decide +kernel
theorem dX1_init_20 : decode cX1_init 20 = .ok (.putfield 18, 3) := by decide +kernel
theorem dX1_init_23 : decode cX1_init 23 = .ok (.aload_n 0, 1) := by decide +kernel
theorem dX1_init_24 : decode cX1_init 24 = .ok (.iconst 5, 1) := by decide +kernel
theorem dX1_init_25 : decode cX1_init 25 = .ok (.newarray .int, 2) := by decide +kernel
theorem dX1_init_27 : decode cX1_init 27 = .ok (.putfield 22, 3) := by decide +kernel
theorem dX1_init_30 : decode cX1_init 30 = .ok (.aload_n 0, 1) := by decide +kernel
theorem dX1_init_31 : decode cX1_init 31 = .ok (.iconst 5, 1) := by decide +kernel
theorem dX1_init_32 : decode cX1_init 32 = .ok (.newarray .int, 2) := by decide +kernel
theorem dX1_init_34 : decode cX1_init 34 = .ok (.putfield 25, 3) := by decide +kernel
theorem dX1_init_37 : decode cX1_init 37 = .ok (.aload_n 0, 1) := by decide +kernel
theorem dX1_init_38 : decode cX1_init 38 = .ok (.iconst 0, 1) := by decide +kernel
theorem dX1_init_39 : decode cX1_init 39 = .ok (.putfield 28, 3) := by decide +kernel
theorem dX1_init_42 : decode cX1_init 42 = .ok (.aload_n 0, 1) := by decide +kernel
theorem dX1_init_43 : decode cX1_init 43 = .ok (.iconst 0, 1) := by decide +kernel
theorem dX1_init_44 : decode cX1_init 44 = .ok (.putfield 32, 3) := by decide +kernel
theorem dX1_init_47 : decode cX1_init 47 = .ok (.aload_n 0, 1) := by decide +kernel
theorem dX1_init_48 : decode cX1_init 48 = .ok (.bipush 9, 2) := by decide +kernel
theorem dX1_init_50 : decode cX1_init 50 = .ok (.putfield 35, 3) := by decide +kernel
theorem dX1_init_53 : decode cX1_init 53 = .ok (.aload_n 0, 1) := by decide +kernel
theorem dX1_init_54 : decode cX1_init 54 = .ok (.iconst 0, 1) := by decide +kernel
theorem dX1_init_55 : decode cX1_init 55 = .ok (.putfield 38, 3) := by decide +kernel
theorem dX1_init_58 : decode cX1_init 58 = .ok (.aload_n 0, 1) := by decide +kernel
theorem dX1_init_59 : decode cX1_init 59 = .ok (.iconst 0, 1) := by decide +kernel
theorem dX1_init_60 : decode cX1_init 60 = .ok (.putfield 41, 3) := by decide +kernel
theorem dX1_init_63 : decode cX1_init 63 = .ok (.return_, 1) := by decide +kernel
theorem dX1_observe_0 : decode cX1_observe 0 = .ok (.aload_n 0, 1) := by decide +kernel
theorem dX1_observe_1 : decode cX1_observe 1 = .ok (.getfield 12, 3) := by decide +kernel
theorem dX1_observe_4 : decode cX1_observe 4 = .ok (.aload_n 1, 1) := by decide +kernel
theorem dX1_observe_5 : decode cX1_observe 5 = .ok (.getfield 44, 3) := by decide +kernel
theorem dX1_observe_8 : decode cX1_observe 8 = .ok (.invokevirtual 47, 3) := by decide +kernel
theorem dX1_observe_11 : decode cX1_observe 11 = .ok (.aload_n 1, 1) := by decide +kernel
theorem dX1_observe_12 : decode cX1_observe 12 = .ok (.getfield 51, 3) := by decide +kernel
theorem dX1_observe_15 : decode cX1_observe 15 = .ok (.iconst 0, 1) := by decide +kernel
theorem dX1_observe_16 : decode cX1_observe 16 = .ok (.aload_n 0, 1) := by decide +kernel
theorem dX1_observe_17 : decode cX1_observe 17 = .ok (.getfield 18, 3) := by decide +kernel
theorem dX1_observe_20 : decode cX1_observe 20 = .ok (.iconst 0, 1) := by decide +kernel
theorem dX1_observe_21 : decode cX1_observe 21 = .ok (.bipush 6, 2) := by decide +kernel
theorem dX1_observe_23 : decode cX1_observe 23 = .ok (.invokestatic 54, 3) := by decide +kernel
theorem dX1_observe_26 : decode cX1_observe 26 = .ok (.aload_n 0, 1) := by decide +kernel
theorem dX1_observe_27 : decode cX1_observe 27 = .ok (.aload_n 1, 1) := by decide +kernel
theorem dX1_observe_28 : decode cX1_observe 28 = .ok (.getfield 60, 3) := by decide +kernel
theorem dX1_observe_31 : decode cX1_observe 31 = .ok (.putfield 28, 3) := by decide +kernel
theorem dX1_observe_34 : decode cX1_observe 34 = .ok (.aload_n 0, 1) := by decide +kernel
theorem dX1_observe_35 : decode cX1_observe 35 = .ok (.aload_n 1, 1) := by decide +kernel
theorem dX1_observe_36 : decode cX1_observe 36 = .ok (.getfield 61, 3) := by decide +kernel
theorem dX1_observe_39 : decode cX1_observe 39 = .ok (.putfield 32, 3) := by decide +kernel
theorem dX1_observe_42 : decode cX1_observe 42 = .ok (.aload_n 0, 1) := by decide +kernel
theorem dX1_observe_43 : decode cX1_observe 43 = .ok (.aload_n 1, 1) := by decide +kernel
theorem dX1_observe_44 : decode cX1_observe 44 = .ok (.getfield 62, 3) := by decide +kernel
theorem dX1_observe_47 : decode cX1_observe 47 = .ok (.putfield 35, 3) := by decide +kernel
theorem dX1_observe_50 : decode cX1_observe 50 = .ok (.return_, 1) := by decide +kernel
theorem dX1_mostIn_0 : decode cX1_mostIn 0 = .ok (.aload_n 0, 1) := by decide +kernel
theorem dX1_mostIn_1 : decode cX1_mostIn 1 = .ok (.iload_n 1, 1) := by decide +kernel
theorem dX1_mostIn_2 : decode cX1_mostIn 2 = .ok (.iconst 5, 1) := by decide +kernel
theorem dX1_mostIn_3 : decode cX1_mostIn 3 = .ok (.invokestatic 63, 3) := by decide +kernel
theorem dX1_mostIn_6 : decode cX1_mostIn 6 = .ok (.putfield 38, 3) := by decide +kernel
theorem dX1_mostIn_9 : decode cX1_mostIn 9 = .ok (.aload_n 0, 1) := by decide +kernel
theorem dX1_mostIn_10 : decode cX1_mostIn 10 = .ok (.iconst (-1), 1) := by decide +kernel
theorem dX1_mostIn_11 : decode cX1_mostIn 11 = .ok (.putfield 41, 3) := by decide +kernel
theorem dX1_mostIn_14 : decode cX1_mostIn 14 = .ok (.aload_n 0, 1) := by decide +kernel
theorem dX1_mostIn_15 : decode cX1_mostIn 15 = .ok (.iconst 0, 1) := by decide +kernel
theorem dX1_mostIn_16 : decode cX1_mostIn 16 = .ok (.iload_n 2, 1) := by decide +kernel
theorem dX1_mostIn_17 : decode cX1_mostIn 17 = .ok (.aload_n 0, 1) := by decide +kernel
theorem dX1_mostIn_18 : decode cX1_mostIn 18 = .ok (.getfield 28, 3) := by decide +kernel
theorem dX1_mostIn_21 : decode cX1_mostIn 21 = .ok (.aload_n 0, 1) := by decide +kernel
theorem dX1_mostIn_22 : decode cX1_mostIn 22 = .ok (.getfield 35, 3) := by decide +kernel
theorem dX1_mostIn_25 : decode cX1_mostIn 25 = .ok (.iconst 0, 1) := by decide +kernel
theorem dX1_mostIn_26 : decode cX1_mostIn 26 = .ok (.invokevirtual 69, 3) := by decide +kernel
theorem dX1_mostIn_29 : decode cX1_mostIn 29 = .ok (.aload_n 0, 1) := by decide +kernel
theorem dX1_mostIn_30 : decode cX1_mostIn 30 = .ok (.getfield 41, 3) := by decide +kernel
theorem dX1_mostIn_33 : decode cX1_mostIn 33 = .ok (.ireturn, 1) := by decide +kernel
theorem dX1_tryHour_0 : decode cX1_tryHour 0 = .ok (.iload_n 1, 1) := by decide +kernel
theorem dX1_tryHour_1 : decode cX1_tryHour 1 = .ok (.aload_n 0, 1) := by decide +kernel
theorem dX1_tryHour_2 : decode cX1_tryHour 2 = .ok (.getfield 38, 3) := by decide +kernel
theorem dX1_tryHour_5 : decode cX1_tryHour 5 = .ok (.if_icmp .lt 10, 3) := by decide +kernel
theorem dX1_tryHour_8 : decode cX1_tryHour 8 = .ok (.aload_n 0, 1) := by decide +kernel
theorem dX1_tryHour_9 : decode cX1_tryHour 9 = .ok (.iload 5, 2) := by decide +kernel
theorem dX1_tryHour_11 : decode cX1_tryHour 11 = .ok (.invokevirtual 73, 3) := by decide +kernel
theorem dX1_tryHour_14 : decode cX1_tryHour 14 = .ok (.return_, 1) := by decide +kernel
theorem dX1_tryHour_15 : decode cX1_tryHour 15 = .ok (.iload 5, 2) := by decide +kernel
theorem dX1_tryHour_17 : decode cX1_tryHour 17 = .ok (.aload_n 0, 1) := by decide +kernel
theorem dX1_tryHour_18 : decode cX1_tryHour 18 = .ok (.getfield 38, 3) := by decide +kernel
theorem dX1_tryHour_21 : decode cX1_tryHour 21 = .ok (.iload_n 1, 1) := by decide +kernel
theorem dX1_tryHour_22 : decode cX1_tryHour 22 = .ok (.isub, 1) := by decide +kernel
theorem dX1_tryHour_23 : decode cX1_tryHour 23 = .ok (.bipush 9, 2) := by decide +kernel
theorem dX1_tryHour_25 : decode cX1_tryHour 25 = .ok (.imul, 1) := by decide +kernel
theorem dX1_tryHour_26 : decode cX1_tryHour 26 = .ok (.iadd, 1) := by decide +kernel
theorem dX1_tryHour_27 : decode cX1_tryHour 27 = .ok (.aload_n 0, 1) := by decide +kernel
theorem dX1_tryHour_28 : decode cX1_tryHour 28 = .ok (.getfield 41, 3) := by decide +kernel
theorem dX1_tryHour_31 : decode cX1_tryHour 31 = .ok (.if_icmp .gt 4, 3) := by decide +kernel
theorem dX1_tryHour_34 : decode cX1_tryHour 34 = .ok (.return_, 1) := by decide +kernel
theorem dX1_tryHour_35 : decode cX1_tryHour 35 = .ok (.iconst 0, 1) := by decide +kernel
theorem dX1_tryHour_36 : decode cX1_tryHour 36 = .ok (.istore 6, 2) := by decide +kernel
theorem dX1_tryHour_38 : decode cX1_tryHour 38 = .ok (.iload 6, 2) := by decide +kernel
theorem dX1_tryHour_40 : decode cX1_tryHour 40 = .ok (.aload_n 0, 1) := by decide +kernel
theorem dX1_tryHour_41 : decode cX1_tryHour 41 = .ok (.getfield 12, 3) := by decide +kernel
theorem dX1_tryHour_44 : decode cX1_tryHour 44 = .ok (.getfield 77, 3) := by decide +kernel
theorem dX1_tryHour_47 : decode cX1_tryHour 47 = .ok (.if_icmp .ge 33, 3) := by decide +kernel
theorem dX1_tryHour_50 : decode cX1_tryHour 50 = .ok (.aload_n 0, 1) := by decide +kernel
theorem dX1_tryHour_51 : decode cX1_tryHour 51 = .ok (.getfield 18, 3) := by decide +kernel
theorem dX1_tryHour_54 : decode cX1_tryHour 54 = .ok (.iload 6, 2) := by decide +kernel
theorem dX1_tryHour_56 : decode cX1_tryHour 56 = .ok (.iaload, 1) := by decide +kernel
theorem dX1_tryHour_57 : decode cX1_tryHour 57 = .ok (.iload_n 1, 1) := by decide +kernel
theorem dX1_tryHour_58 : decode cX1_tryHour 58 = .ok (.if_icmp .gt 16, 3) := by decide +kernel
theorem dX1_tryHour_61 : decode cX1_tryHour 61 = .ok (.aload_n 0, 1) := by decide +kernel
theorem dX1_tryHour_62 : decode cX1_tryHour 62 = .ok (.iload 6, 2) := by decide +kernel
theorem dX1_tryHour_64 : decode cX1_tryHour 64 = .ok (.iload_n 1, 1) := by decide +kernel
theorem dX1_tryHour_65 : decode cX1_tryHour 65 = .ok (.iload_n 2, 1) := by decide +kernel
theorem dX1_tryHour_66 : decode cX1_tryHour 66 = .ok (.iload_n 3, 1) := by decide +kernel
theorem dX1_tryHour_67 : decode cX1_tryHour 67 = .ok (.iload 4, 2) := by decide +kernel
theorem dX1_tryHour_69 : decode cX1_tryHour 69 = .ok (.iload 5, 2) := by decide +kernel
theorem dX1_tryHour_71 : decode cX1_tryHour 71 = .ok (.invokevirtual 80, 3) := by decide +kernel
theorem dX1_tryHour_74 : decode cX1_tryHour 74 = .ok (.iinc 6 1, 3) := by decide +kernel
theorem dX1_tryHour_77 : decode cX1_tryHour 77 = .ok (.goto (-39), 3) := by decide +kernel
theorem dX1_tryHour_80 : decode cX1_tryHour 80 = .ok (.aload_n 0, 1) := by decide +kernel
theorem dX1_tryHour_81 : decode cX1_tryHour 81 = .ok (.getfield 22, 3) := by decide +kernel
theorem dX1_tryHour_84 : decode cX1_tryHour 84 = .ok (.iload_n 1, 1) := by decide +kernel
theorem dX1_tryHour_85 : decode cX1_tryHour 85 = .ok (.bipush 9, 2) := by decide +kernel
theorem dX1_tryHour_87 : decode cX1_tryHour 87 = .ok (.iastore, 1) := by decide +kernel
theorem dX1_tryHour_88 : decode cX1_tryHour 88 = .ok (.aload_n 0, 1) := by decide +kernel
theorem dX1_tryHour_89 : decode cX1_tryHour 89 = .ok (.iload_n 1, 1) := by decide +kernel
theorem dX1_tryHour_90 : decode cX1_tryHour 90 = .ok (.iconst 1, 1) := by decide +kernel
theorem dX1_tryHour_91 : decode cX1_tryHour 91 = .ok (.iadd, 1) := by decide +kernel
theorem dX1_tryHour_92 : decode cX1_tryHour 92 = .ok (.iload_n 2, 1) := by decide +kernel
theorem dX1_tryHour_93 : decode cX1_tryHour 93 = .ok (.invokestatic 84, 3) := by decide +kernel
theorem dX1_tryHour_96 : decode cX1_tryHour 96 = .ok (.iload_n 3, 1) := by decide +kernel
theorem dX1_tryHour_97 : decode cX1_tryHour 97 = .ok (.aload_n 0, 1) := by decide +kernel
theorem dX1_tryHour_98 : decode cX1_tryHour 98 = .ok (.getfield 32, 3) := by decide +kernel
theorem dX1_tryHour_101 : decode cX1_tryHour 101 = .ok (.invokestatic 88, 3) := by decide +kernel
theorem dX1_tryHour_104 : decode cX1_tryHour 104 = .ok (.bipush 9, 2) := by decide +kernel
theorem dX1_tryHour_106 : decode cX1_tryHour 106 = .ok (.iload 5, 2) := by decide +kernel
theorem dX1_tryHour_108 : decode cX1_tryHour 108 = .ok (.invokevirtual 69, 3) := by decide +kernel
theorem dX1_tryHour_111 : decode cX1_tryHour 111 = .ok (.return_, 1) := by decide +kernel
theorem dX1_tryDrawing_0 : decode cX1_tryDrawing 0 = .ok (.aload_n 0, 1) := by decide +kernel
theorem dX1_tryDrawing_1 : decode cX1_tryDrawing 1 = .ok (.getfield 12, 3) := by decide +kernel
theorem dX1_tryDrawing_4 : decode cX1_tryDrawing 4 = .ok (.iload 5, 2) := by decide +kernel
theorem dX1_tryDrawing_6 : decode cX1_tryDrawing 6 = .ok (.iload_n 1, 1) := by decide +kernel
theorem dX1_tryDrawing_7 : decode cX1_tryDrawing 7 = .ok (.iload_n 3, 1) := by decide +kernel
theorem dX1_tryDrawing_8 : decode cX1_tryDrawing 8 = .ok (.iload 4, 2) := by decide +kernel
theorem dX1_tryDrawing_10 : decode cX1_tryDrawing 10 = .ok (.invokevirtual 91, 3) := by decide +kernel
theorem dX1_tryDrawing_13 : decode cX1_tryDrawing 13 = .ok (.istore 7, 2) := by decide +kernel
theorem dX1_tryDrawing_15 : decode cX1_tryDrawing 15 = .ok (.aload_n 0, 1) := by decide +kernel
theorem dX1_tryDrawing_16 : decode cX1_tryDrawing 16 = .ok (.getfield 12, 3) := by decide +kernel
theorem dX1_tryDrawing_19 : decode cX1_tryDrawing 19 = .ok (.iload_n 1, 1) := by decide +kernel
theorem dX1_tryDrawing_20 : decode cX1_tryDrawing 20 = .ok (.iload_n 3, 1) := by decide +kernel
theorem dX1_tryDrawing_21 : decode cX1_tryDrawing 21 = .ok (.invokevirtual 95, 3) := by decide +kernel
theorem dX1_tryDrawing_24 : decode cX1_tryDrawing 24 = .ok (.ifCond .eq 8, 3) := by decide +kernel
theorem dX1_tryDrawing_27 : decode cX1_tryDrawing 27 = .ok (.iload 7, 2) := by decide +kernel
theorem dX1_tryDrawing_29 : decode cX1_tryDrawing 29 = .ok (.goto 4, 3) := by decide +kernel
theorem dX1_tryDrawing_32 : decode cX1_tryDrawing 32 = .ok (.iconst 0, 1) := by decide +kernel
theorem dX1_tryDrawing_33 : decode cX1_tryDrawing 33 = .ok (.istore 8, 2) := by decide +kernel
theorem dX1_tryDrawing_35 : decode cX1_tryDrawing 35 = .ok (.aload_n 0, 1) := by decide +kernel
theorem dX1_tryDrawing_36 : decode cX1_tryDrawing 36 = .ok (.getfield 18, 3) := by decide +kernel
theorem dX1_tryDrawing_39 : decode cX1_tryDrawing 39 = .ok (.iload_n 1, 1) := by decide +kernel
theorem dX1_tryDrawing_40 : decode cX1_tryDrawing 40 = .ok (.iaload, 1) := by decide +kernel
theorem dX1_tryDrawing_41 : decode cX1_tryDrawing 41 = .ok (.istore 9, 2) := by decide +kernel
theorem dX1_tryDrawing_43 : decode cX1_tryDrawing 43 = .ok (.aload_n 0, 1) := by decide +kernel
theorem dX1_tryDrawing_44 : decode cX1_tryDrawing 44 = .ok (.getfield 22, 3) := by decide +kernel
theorem dX1_tryDrawing_47 : decode cX1_tryDrawing 47 = .ok (.iload_n 2, 1) := by decide +kernel
theorem dX1_tryDrawing_48 : decode cX1_tryDrawing 48 = .ok (.iload_n 1, 1) := by decide +kernel
theorem dX1_tryDrawing_49 : decode cX1_tryDrawing 49 = .ok (.iastore, 1) := by decide +kernel
theorem dX1_tryDrawing_50 : decode cX1_tryDrawing 50 = .ok (.aload_n 0, 1) := by decide +kernel
theorem dX1_tryDrawing_51 : decode cX1_tryDrawing 51 = .ok (.getfield 18, 3) := by decide +kernel
theorem dX1_tryDrawing_54 : decode cX1_tryDrawing 54 = .ok (.iload_n 1, 1) := by decide +kernel
theorem dX1_tryDrawing_55 : decode cX1_tryDrawing 55 = .ok (.iload_n 2, 1) := by decide +kernel
theorem dX1_tryDrawing_56 : decode cX1_tryDrawing 56 = .ok (.aload_n 0, 1) := by decide +kernel
theorem dX1_tryDrawing_57 : decode cX1_tryDrawing 57 = .ok (.getfield 12, 3) := by decide +kernel
theorem dX1_tryDrawing_60 : decode cX1_tryDrawing 60 = .ok (.getfield 99, 3) := by decide +kernel
theorem dX1_tryDrawing_63 : decode cX1_tryDrawing 63 = .ok (.iload_n 1, 1) := by decide +kernel
theorem dX1_tryDrawing_64 : decode cX1_tryDrawing 64 = .ok (.iaload, 1) := by decide +kernel
theorem dX1_tryDrawing_65 : decode cX1_tryDrawing 65 = .ok (.iadd, 1) := by decide +kernel
theorem dX1_tryDrawing_66 : decode cX1_tryDrawing 66 = .ok (.iastore, 1) := by decide +kernel
theorem dX1_tryDrawing_67 : decode cX1_tryDrawing 67 = .ok (.aload_n 0, 1) := by decide +kernel
theorem dX1_tryDrawing_68 : decode cX1_tryDrawing 68 = .ok (.iload_n 2, 1) := by decide +kernel
theorem dX1_tryDrawing_69 : decode cX1_tryDrawing 69 = .ok (.iconst 1, 1) := by decide +kernel
theorem dX1_tryDrawing_70 : decode cX1_tryDrawing 70 = .ok (.iadd, 1) := by decide +kernel
theorem dX1_tryDrawing_71 : decode cX1_tryDrawing 71 = .ok (.aload_n 0, 1) := by decide +kernel
theorem dX1_tryDrawing_72 : decode cX1_tryDrawing 72 = .ok (.getfield 12, 3) := by decide +kernel
theorem dX1_tryDrawing_75 : decode cX1_tryDrawing 75 = .ok (.iload_n 1, 1) := by decide +kernel
theorem dX1_tryDrawing_76 : decode cX1_tryDrawing 76 = .ok (.iload_n 3, 1) := by decide +kernel
theorem dX1_tryDrawing_77 : decode cX1_tryDrawing 77 = .ok (.invokevirtual 102, 3) := by decide +kernel
theorem dX1_tryDrawing_80 : decode cX1_tryDrawing 80 = .ok (.invokestatic 84, 3) := by decide +kernel
theorem dX1_tryDrawing_83 : decode cX1_tryDrawing 83 = .ok (.iload 4, 2) := by decide +kernel
theorem dX1_tryDrawing_85 : decode cX1_tryDrawing 85 = .ok (.iload 7, 2) := by decide +kernel
theorem dX1_tryDrawing_87 : decode cX1_tryDrawing 87 = .ok (.isub, 1) := by decide +kernel
theorem dX1_tryDrawing_88 : decode cX1_tryDrawing 88 = .ok (.aload_n 0, 1) := by decide +kernel
theorem dX1_tryDrawing_89 : decode cX1_tryDrawing 89 = .ok (.getfield 32, 3) := by decide +kernel
theorem dX1_tryDrawing_92 : decode cX1_tryDrawing 92 = .ok (.invokestatic 88, 3) := by decide +kernel
theorem dX1_tryDrawing_95 : decode cX1_tryDrawing 95 = .ok (.iload_n 1, 1) := by decide +kernel
theorem dX1_tryDrawing_96 : decode cX1_tryDrawing 96 = .ok (.iload 6, 2) := by decide +kernel
theorem dX1_tryDrawing_98 : decode cX1_tryDrawing 98 = .ok (.iload 8, 2) := by decide +kernel
theorem dX1_tryDrawing_100 : decode cX1_tryDrawing 100 = .ok (.iadd, 1) := by decide +kernel
theorem dX1_tryDrawing_101 : decode cX1_tryDrawing 101 = .ok (.invokevirtual 69, 3) := by decide +kernel
theorem dX1_tryDrawing_104 : decode cX1_tryDrawing 104 = .ok (.aload_n 0, 1) := by decide +kernel
theorem dX1_tryDrawing_105 : decode cX1_tryDrawing 105 = .ok (.getfield 18, 3) := by decide +kernel
theorem dX1_tryDrawing_108 : decode cX1_tryDrawing 108 = .ok (.iload_n 1, 1) := by decide +kernel
theorem dX1_tryDrawing_109 : decode cX1_tryDrawing 109 = .ok (.iload 9, 2) := by decide +kernel
theorem dX1_tryDrawing_111 : decode cX1_tryDrawing 111 = .ok (.iastore, 1) := by decide +kernel
theorem dX1_tryDrawing_112 : decode cX1_tryDrawing 112 = .ok (.return_, 1) := by decide +kernel
theorem dX1_keep_0 : decode cX1_keep 0 = .ok (.iload_n 1, 1) := by decide +kernel
theorem dX1_keep_1 : decode cX1_keep 1 = .ok (.aload_n 0, 1) := by decide +kernel
theorem dX1_keep_2 : decode cX1_keep 2 = .ok (.getfield 41, 3) := by decide +kernel
theorem dX1_keep_5 : decode cX1_keep 5 = .ok (.if_icmp .le 25, 3) := by decide +kernel
theorem dX1_keep_8 : decode cX1_keep 8 = .ok (.aload_n 0, 1) := by decide +kernel
theorem dX1_keep_9 : decode cX1_keep 9 = .ok (.iload_n 1, 1) := by decide +kernel
theorem dX1_keep_10 : decode cX1_keep 10 = .ok (.putfield 41, 3) := by decide +kernel
theorem dX1_keep_13 : decode cX1_keep 13 = .ok (.aload_n 0, 1) := by decide +kernel
theorem dX1_keep_14 : decode cX1_keep 14 = .ok (.getfield 22, 3) := by decide +kernel
theorem dX1_keep_17 : decode cX1_keep 17 = .ok (.iconst 0, 1) := by decide +kernel
theorem dX1_keep_18 : decode cX1_keep 18 = .ok (.aload_n 0, 1) := by decide +kernel
theorem dX1_keep_19 : decode cX1_keep 19 = .ok (.getfield 25, 3) := by decide +kernel
theorem dX1_keep_22 : decode cX1_keep 22 = .ok (.iconst 0, 1) := by decide +kernel
theorem dX1_keep_23 : decode cX1_keep 23 = .ok (.aload_n 0, 1) := by decide +kernel
theorem dX1_keep_24 : decode cX1_keep 24 = .ok (.getfield 38, 3) := by decide +kernel
theorem dX1_keep_27 : decode cX1_keep 27 = .ok (.invokestatic 54, 3) := by decide +kernel
theorem dX1_keep_30 : decode cX1_keep 30 = .ok (.return_, 1) := by decide +kernel
theorem dX2_init_0 : decode cX2_init 0 = .ok (.aload_n 0, 1) := by decide +kernel
theorem dX2_init_1 : decode cX2_init 1 = .ok (.invokespecial 3, 3) := by decide +kernel
theorem dX2_init_4 : decode cX2_init 4 = .ok (.aload_n 0, 1) := by decide +kernel
theorem dX2_init_5 : decode cX2_init 5 = .ok (.bipush 24, 2) := by decide +kernel
theorem dX2_init_7 : decode cX2_init 7 = .ok (.newarray .long, 2) := by decide +kernel
theorem dX2_init_9 : decode cX2_init 9 = .ok (.putfield 9, 3) := by decide +kernel
theorem dX2_init_12 : decode cX2_init 12 = .ok (.aload_n 0, 1) := by decide +kernel
theorem dX2_init_13 : decode cX2_init 13 = .ok (.iconst 0, 1) := by decide +kernel
theorem dX2_init_14 : decode cX2_init 14 = .ok (.putfield 15, 3) := by decide +kernel
theorem dX2_init_17 : decode cX2_init 17 = .ok (.aload_n 0, 1) := by decide +kernel
theorem dX2_init_18 : decode cX2_init 18 = .ok (.iconst 0, 1) := by decide +kernel
theorem dX2_init_19 : decode cX2_init 19 = .ok (.putfield 19, 3) := by decide +kernel
theorem dX2_init_22 : decode cX2_init 22 = .ok (.aload_n 0, 1) := by decide +kernel
theorem dX2_init_23 : decode cX2_init 23 = .ok (.iconst 0, 1) := by decide +kernel
theorem dX2_init_24 : decode cX2_init 24 = .ok (.putfield 23, 3) := by decide +kernel
theorem dX2_init_27 : decode cX2_init 27 = .ok (.return_, 1) := by decide +kernel
theorem dX2_begin_0 : decode cX2_begin 0 = .ok (.aload_n 0, 1) := by decide +kernel
theorem dX2_begin_1 : decode cX2_begin 1 = .ok (.iconst 1, 1) := by decide +kernel
theorem dX2_begin_2 : decode cX2_begin 2 = .ok (.putfield 15, 3) := by decide +kernel
theorem dX2_begin_5 : decode cX2_begin 5 = .ok (.aload_n 0, 1) := by decide +kernel
theorem dX2_begin_6 : decode cX2_begin 6 = .ok (.iload_n 1, 1) := by decide +kernel
theorem dX2_begin_7 : decode cX2_begin 7 = .ok (.putfield 19, 3) := by decide +kernel
theorem dX2_begin_10 : decode cX2_begin 10 = .ok (.aload_n 0, 1) := by decide +kernel
theorem dX2_begin_11 : decode cX2_begin 11 = .ok (.iload_n 2, 1) := by decide +kernel
theorem dX2_begin_12 : decode cX2_begin 12 = .ok (.putfield 23, 3) := by decide +kernel
theorem dX2_begin_15 : decode cX2_begin 15 = .ok (.iconst 0, 1) := by decide +kernel
theorem dX2_begin_16 : decode cX2_begin 16 = .ok (.istore_n 3, 1) := by decide +kernel
theorem dX2_begin_17 : decode cX2_begin 17 = .ok (.iload_n 3, 1) := by decide +kernel
theorem dX2_begin_18 : decode cX2_begin 18 = .ok (.bipush 24, 2) := by decide +kernel
theorem dX2_begin_20 : decode cX2_begin 20 = .ok (.if_icmp .ge 16, 3) := by decide +kernel
theorem dX2_begin_23 : decode cX2_begin 23 = .ok (.aload_n 0, 1) := by decide +kernel
theorem dX2_begin_24 : decode cX2_begin 24 = .ok (.getfield 9, 3) := by decide +kernel
theorem dX2_begin_27 : decode cX2_begin 27 = .ok (.iload_n 3, 1) := by decide +kernel
theorem dX2_begin_28 : decode cX2_begin 28 = .ok (.lconst 0, 1) := by decide +kernel
theorem dX2_begin_29 : decode cX2_begin 29 = .ok (.lastore, 1) := by decide +kernel
theorem dX2_begin_30 : decode cX2_begin 30 = .ok (.iinc 3 1, 3) := by decide +kernel
theorem dX2_begin_33 : decode cX2_begin 33 = .ok (.goto (-16), 3) := by decide +kernel
theorem dX2_begin_36 : decode cX2_begin 36 = .ok (.return_, 1) := by decide +kernel
theorem dX2_hasSpan_0 : decode cX2_hasSpan 0 = .ok (.iload_n 2, 1) := by decide +kernel
theorem dX2_hasSpan_1 : decode cX2_hasSpan 1 = .ok (.ifCond .lt 21, 3) := by decide +kernel
theorem dX2_hasSpan_4 : decode cX2_hasSpan 4 = .ok (.iload_n 1, 1) := by decide +kernel
theorem dX2_hasSpan_5 : decode cX2_hasSpan 5 = .ok (.ifCond .lt 17, 3) := by decide +kernel
theorem dX2_hasSpan_8 : decode cX2_hasSpan 8 = .ok (.iload_n 1, 1) := by decide +kernel
theorem dX2_hasSpan_9 : decode cX2_hasSpan 9 = .ok (.aload_n 0, 1) := by decide +kernel
theorem dX2_hasSpan_10 : decode cX2_hasSpan 10 = .ok (.getfield 23, 3) := by decide +kernel
theorem dX2_hasSpan_13 : decode cX2_hasSpan 13 = .ok (.iload_n 2, 1) := by decide +kernel
theorem dX2_hasSpan_14 : decode cX2_hasSpan 14 = .ok (.isub, 1) := by decide +kernel
theorem dX2_hasSpan_15 : decode cX2_hasSpan 15 = .ok (.if_icmp .gt 7, 3) := by decide +kernel
theorem dX2_hasSpan_18 : decode cX2_hasSpan 18 = .ok (.iconst 1, 1) := by decide +kernel
theorem dX2_hasSpan_19 : decode cX2_hasSpan 19 = .ok (.goto 4, 3) := by decide +kernel
theorem dX2_hasSpan_22 : decode cX2_hasSpan 22 = .ok (.iconst 0, 1) := by decide +kernel
theorem dX2_hasSpan_23 : decode cX2_hasSpan 23 = .ok (.ireturn, 1) := by decide +kernel
theorem dX2_put_0 : decode cX2_put 0 = .ok (.aload_n 0, 1) := by decide +kernel
theorem dX2_put_1 : decode cX2_put 1 = .ok (.getfield 19, 3) := by decide +kernel
theorem dX2_put_4 : decode cX2_put 4 = .ok (.ifCond .ne 16, 3) := by decide +kernel
theorem dX2_put_7 : decode cX2_put 7 = .ok (.aload_n 0, 1) := by decide +kernel
theorem dX2_put_8 : decode cX2_put 8 = .ok (.getfield 9, 3) := by decide +kernel
theorem dX2_put_11 : decode cX2_put 11 = .ok (.iload_n 1, 1) := by decide +kernel
theorem dX2_put_12 : decode cX2_put 12 = .ok (.lload_n 2, 1) := by decide +kernel
theorem dX2_put_13 : decode cX2_put 13 = .ok (.l2i, 1) := by decide +kernel
theorem dX2_put_14 : decode cX2_put 14 = .ok (.i2b, 1) := by decide +kernel
theorem dX2_put_15 : decode cX2_put 15 = .ok (.i2l, 1) := by decide +kernel
theorem dX2_put_16 : decode cX2_put 16 = .ok (.lastore, 1) := by decide +kernel
theorem dX2_put_17 : decode cX2_put 17 = .ok (.goto 31, 3) := by decide +kernel
theorem dX2_put_20 : decode cX2_put 20 = .ok (.aload_n 0, 1) := by decide +kernel
theorem dX2_put_21 : decode cX2_put 21 = .ok (.getfield 19, 3) := by decide +kernel
theorem dX2_put_24 : decode cX2_put 24 = .ok (.iconst 1, 1) := by decide +kernel
theorem dX2_put_25 : decode cX2_put 25 = .ok (.if_icmp .ne 16, 3) := by decide +kernel
theorem dX2_put_28 : decode cX2_put 28 = .ok (.aload_n 0, 1) := by decide +kernel
theorem dX2_put_29 : decode cX2_put 29 = .ok (.getfield 9, 3) := by decide +kernel
theorem dX2_put_32 : decode cX2_put 32 = .ok (.iload_n 1, 1) := by decide +kernel
theorem dX2_put_33 : decode cX2_put 33 = .ok (.lload_n 2, 1) := by decide +kernel
theorem dX2_put_34 : decode cX2_put 34 = .ok (.l2i, 1) := by decide +kernel
theorem dX2_put_35 : decode cX2_put 35 = .ok (.i2s, 1) := by decide +kernel
theorem dX2_put_36 : decode cX2_put 36 = .ok (.i2l, 1) := by decide +kernel
theorem dX2_put_37 : decode cX2_put 37 = .ok (.lastore, 1) := by decide +kernel
theorem dX2_put_38 : decode cX2_put 38 = .ok (.goto 10, 3) := by decide +kernel
theorem dX2_put_41 : decode cX2_put 41 = .ok (.aload_n 0, 1) := by decide +kernel
theorem dX2_put_42 : decode cX2_put 42 = .ok (.getfield 9, 3) := by decide +kernel
theorem dX2_put_45 : decode cX2_put 45 = .ok (.iload_n 1, 1) := by decide +kernel
theorem dX2_put_46 : decode cX2_put 46 = .ok (.lload_n 2, 1) := by decide +kernel
theorem dX2_put_47 : decode cX2_put 47 = .ok (.lastore, 1) := by decide +kernel
theorem dX2_put_48 : decode cX2_put 48 = .ok (.return_, 1) := by decide +kernel
theorem dX3_init_0 : decode cX3_init 0 = .ok (.aload_n 0, 1) := by decide +kernel
theorem dX3_init_1 : decode cX3_init 1 = .ok (.invokespecial 3, 3) := by decide +kernel
theorem dX3_init_4 : decode cX3_init 4 = .ok (.aload_n 0, 1) := by decide +kernel
theorem dX3_init_5 : decode cX3_init 5 = .ok (.bipush 60, 2) := by decide +kernel
theorem dX3_init_7 : decode cX3_init 7 = .ok (.newarray .byte, 2) := by decide +kernel
theorem dX3_init_9 : decode cX3_init 9 = .ok (.putfield 9, 3) := by decide +kernel
theorem dX3_init_12 : decode cX3_init 12 = .ok (.aload_n 0, 1) := by decide +kernel
theorem dX3_init_13 : decode cX3_init 13 = .ok (.iconst 0, 1) := by decide +kernel
theorem dX3_init_14 : decode cX3_init 14 = .ok (.putfield 15, 3) := by decide +kernel
theorem dX3_init_17 : decode cX3_init 17 = .ok (.aload_n 0, 1) := by decide +kernel
theorem dX3_init_18 : decode cX3_init 18 = .ok (.iconst 0, 1) := by decide +kernel
theorem dX3_init_19 : decode cX3_init 19 = .ok (.putfield 19, 3) := by decide +kernel
theorem dX3_init_22 : decode cX3_init 22 = .ok (.return_, 1) := by decide +kernel
theorem dX3_append_0 : decode cX3_append 0 = .ok (.aload_n 0, 1) := by decide +kernel
theorem dX3_append_1 : decode cX3_append 1 = .ok (.getfield 15, 3) := by decide +kernel
theorem dX3_append_4 : decode cX3_append 4 = .ok (.bipush 60, 2) := by decide +kernel
theorem dX3_append_6 : decode cX3_append 6 = .ok (.if_icmp .ge 24, 3) := by decide +kernel
theorem dX3_append_9 : decode cX3_append 9 = .ok (.aload_n 0, 1) := by decide +kernel
theorem dX3_append_10 : decode cX3_append 10 = .ok (.getfield 9, 3) := by decide +kernel
theorem dX3_append_13 : decode cX3_append 13 = .ok (.aload_n 0, 1) := by decide +kernel
theorem dX3_append_14 : decode cX3_append 14 = .ok (.getfield 15, 3) := by decide +kernel
theorem dX3_append_17 : decode cX3_append 17 = .ok (.iload_n 1, 1) := by decide +kernel
theorem dX3_append_18 : decode cX3_append 18 = .ok (.i2b, 1) := by decide +kernel
theorem dX3_append_19 : decode cX3_append 19 = .ok (.bastore, 1) := by decide +kernel
theorem dX3_append_20 : decode cX3_append 20 = .ok (.aload_n 0, 1) := by decide +kernel
theorem dX3_append_21 : decode cX3_append 21 = .ok (.dup, 1) := by decide +kernel
theorem dX3_append_22 : decode cX3_append 22 = .ok (.getfield 15, 3) := by decide +kernel
theorem dX3_append_25 : decode cX3_append 25 = .ok (.iconst 1, 1) := by decide +kernel
theorem dX3_append_26 : decode cX3_append 26 = .ok (.iadd, 1) := by decide +kernel
theorem dX3_append_27 : decode cX3_append 27 = .ok (.putfield 15, 3) := by decide +kernel
theorem dX3_append_30 : decode cX3_append 30 = .ok (.return_, 1) := by decide +kernel
theorem dX3_fault_0 : decode cX3_fault 0 = .ok (.bipush (-20), 2) := by decide +kernel
theorem dX3_fault_2 : decode cX3_fault 2 = .ok (.aload_n 0, 1) := by decide +kernel
theorem dX3_fault_3 : decode cX3_fault 3 = .ok (.getfield 19, 3) := by decide +kernel
theorem dX3_fault_6 : decode cX3_fault 6 = .ok (.isub, 1) := by decide +kernel
theorem dX3_fault_7 : decode cX3_fault 7 = .ok (.ireturn, 1) := by decide +kernel
theorem dX3_next_0 : decode cX3_next 0 = .ok (.aload_n 0, 1) := by decide +kernel
theorem dX3_next_1 : decode cX3_next 1 = .ok (.getfield 19, 3) := by decide +kernel
theorem dX3_next_4 : decode cX3_next 4 = .ok (.aload_n 0, 1) := by decide +kernel
theorem dX3_next_5 : decode cX3_next 5 = .ok (.getfield 15, 3) := by decide +kernel
theorem dX3_next_8 : decode cX3_next 8 = .ok (.if_icmp .ge 30, 3) := by decide +kernel
theorem dX3_next_11 : decode cX3_next 11 = .ok (.aload_n 0, 1) := by decide +kernel
theorem dX3_next_12 : decode cX3_next 12 = .ok (.getfield 9, 3) := by decide +kernel
theorem dX3_next_15 : decode cX3_next 15 = .ok (.aload_n 0, 1) := by decide +kernel
theorem dX3_next_16 : decode cX3_next 16 = .ok (.getfield 19, 3) := by decide +kernel
theorem dX3_next_19 : decode cX3_next 19 = .ok (.baload, 1) := by decide +kernel
theorem dX3_next_20 : decode cX3_next 20 = .ok (.bipush 32, 2) := by decide +kernel
theorem dX3_next_22 : decode cX3_next 22 = .ok (.if_icmp .ne 16, 3) := by decide +kernel
theorem dX3_next_25 : decode cX3_next 25 = .ok (.aload_n 0, 1) := by decide +kernel
theorem dX3_next_26 : decode cX3_next 26 = .ok (.dup, 1) := by decide +kernel
theorem dX3_next_27 : decode cX3_next 27 = .ok (.getfield 19, 3) := by decide +kernel
theorem dX3_next_30 : decode cX3_next 30 = .ok (.iconst 1, 1) := by decide +kernel
theorem dX3_next_31 : decode cX3_next 31 = .ok (.iadd, 1) := by decide +kernel
theorem dX3_next_32 : decode cX3_next 32 = .ok (.putfield 19, 3) := by decide +kernel
theorem dX3_next_35 : decode cX3_next 35 = .ok (.goto (-35), 3) := by decide +kernel
theorem dX3_next_38 : decode cX3_next 38 = .ok (.aload_n 0, 1) := by decide +kernel
theorem dX3_next_39 : decode cX3_next 39 = .ok (.getfield 19, 3) := by decide +kernel
theorem dX3_next_42 : decode cX3_next 42 = .ok (.aload_n 0, 1) := by decide +kernel
theorem dX3_next_43 : decode cX3_next 43 = .ok (.getfield 15, 3) := by decide +kernel
theorem dX3_next_46 : decode cX3_next 46 = .ok (.if_icmp .ge 15, 3) := by decide +kernel
theorem dX3_next_49 : decode cX3_next 49 = .ok (.aload_n 0, 1) := by decide +kernel
theorem dX3_next_50 : decode cX3_next 50 = .ok (.getfield 9, 3) := by decide +kernel
theorem dX3_next_53 : decode cX3_next 53 = .ok (.aload_n 0, 1) := by decide +kernel
theorem dX3_next_54 : decode cX3_next 54 = .ok (.getfield 19, 3) := by decide +kernel
theorem dX3_next_57 : decode cX3_next 57 = .ok (.baload, 1) := by decide +kernel
theorem dX3_next_58 : decode cX3_next 58 = .ok (.goto 4, 3) := by decide +kernel
theorem dX3_next_61 : decode cX3_next 61 = .ok (.iconst 0, 1) := by decide +kernel
theorem dX3_next_62 : decode cX3_next 62 = .ok (.ireturn, 1) := by decide +kernel
theorem dX3_readFolk_0 : decode cX3_readFolk 0 = .ok (.aload_n 0, 1) := by decide +kernel
theorem dX3_readFolk_1 : decode cX3_readFolk 1 = .ok (.iconst 0, 1) := by decide +kernel
theorem dX3_readFolk_2 : decode cX3_readFolk 2 = .ok (.putfield 19, 3) := by decide +kernel
theorem dX3_readFolk_5 : decode cX3_readFolk 5 = .ok (.aload_n 1, 1) := by decide +kernel
theorem dX3_readFolk_6 : decode cX3_readFolk 6 = .ok (.iconst 0, 1) := by decide +kernel
theorem dX3_readFolk_7 : decode cX3_readFolk 7 = .ok (.putfield 22, 3) := by decide +kernel
theorem dX3_readFolk_10 : decode cX3_readFolk 10 = .ok (.iconst 1, 1) := by decide +kernel
theorem dX3_readFolk_11 : decode cX3_readFolk 11 = .ok (.istore_n 2, 1) := by decide +kernel
theorem dX3_readFolk_12 : decode cX3_readFolk 12 = .ok (.iload_n 2, 1) := by decide +kernel
theorem dX3_readFolk_13 : decode cX3_readFolk 13 = .ok (.bipush 6, 2) := by decide +kernel
theorem dX3_readFolk_15 : decode cX3_readFolk 15 = .ok (.if_icmp .gt 60, 3) := by decide +kernel
theorem dX3_readFolk_18 : decode cX3_readFolk 18 = .ok (.aload_n 0, 1) := by decide +kernel
theorem dX3_readFolk_19 : decode cX3_readFolk 19 = .ok (.aload_n 1, 1) := by decide +kernel
theorem dX3_readFolk_20 : decode cX3_readFolk 20 = .ok (.invokevirtual 27, 3) := by decide +kernel
theorem dX3_readFolk_23 : decode cX3_readFolk 23 = .ok (.ifCond .ne 8, 3) := by decide +kernel
theorem dX3_readFolk_26 : decode cX3_readFolk 26 = .ok (.aload_n 0, 1) := by decide +kernel
theorem dX3_readFolk_27 : decode cX3_readFolk 27 = .ok (.invokevirtual 31, 3) := by decide +kernel
theorem dX3_readFolk_30 : decode cX3_readFolk 30 = .ok (.ireturn, 1) := by decide +kernel
theorem dX3_readFolk_31 : decode cX3_readFolk 31 = .ok (.aload_n 0, 1) := by decide +kernel
theorem dX3_readFolk_32 : decode cX3_readFolk 32 = .ok (.invokevirtual 35, 3) := by decide +kernel
theorem dX3_readFolk_35 : decode cX3_readFolk 35 = .ok (.istore_n 3, 1) := by decide +kernel
theorem dX3_readFolk_36 : decode cX3_readFolk 36 = .ok (.iload_n 3, 1) := by decide +kernel
theorem dX3_readFolk_37 : decode cX3_readFolk 37 = .ok (.ifCond .ne 5, 3) := by decide +kernel
theorem dX3_readFolk_40 : decode cX3_readFolk 40 = .ok (.iload_n 2, 1) := by decide +kernel
theorem dX3_readFolk_41 : decode cX3_readFolk 41 = .ok (.ireturn, 1) := by decide +kernel
theorem dX3_readFolk_42 : decode cX3_readFolk 42 = .ok (.iload_n 3, 1) := by decide +kernel
theorem dX3_readFolk_43 : decode cX3_readFolk 43 = .ok (.bipush 44, 2) := by decide +kernel
theorem dX3_readFolk_45 : decode cX3_readFolk 45 = .ok (.if_icmp .ne 9, 3) := by decide +kernel
theorem dX3_readFolk_48 : decode cX3_readFolk 48 = .ok (.iload_n 2, 1) := by decide +kernel
theorem dX3_readFolk_49 : decode cX3_readFolk 49 = .ok (.bipush 6, 2) := by decide +kernel
theorem dX3_readFolk_51 : decode cX3_readFolk 51 = .ok (.if_icmp .ne 8, 3) := by decide +kernel
theorem dX3_readFolk_54 : decode cX3_readFolk 54 = .ok (.aload_n 0, 1) := by decide +kernel
theorem dX3_readFolk_55 : decode cX3_readFolk 55 = .ok (.invokevirtual 31, 3) := by decide +kernel
theorem dX3_readFolk_58 : decode cX3_readFolk 58 = .ok (.ireturn, 1) := by decide +kernel
theorem dX3_readFolk_59 : decode cX3_readFolk 59 = .ok (.aload_n 0, 1) := by decide +kernel
theorem dX3_readFolk_60 : decode cX3_readFolk 60 = .ok (.dup, 1) := by decide +kernel
theorem dX3_readFolk_61 : decode cX3_readFolk 61 = .ok (.getfield 19, 3) := by decide +kernel
theorem dX3_readFolk_64 : decode cX3_readFolk 64 = .ok (.iconst 1, 1) := by decide +kernel
theorem dX3_readFolk_65 : decode cX3_readFolk 65 = .ok (.iadd, 1) := by decide +kernel
theorem dX3_readFolk_66 : decode cX3_readFolk 66 = .ok (.putfield 19, 3) := by decide +kernel
theorem dX3_readFolk_69 : decode cX3_readFolk 69 = .ok (.iinc 2 1, 3) := by decide +kernel
theorem dX3_readFolk_72 : decode cX3_readFolk 72 = .ok (.goto (-60), 3) := by decide +kernel
theorem dX3_readFolk_75 : decode cX3_readFolk 75 = .ok (.aload_n 0, 1) := by decide +kernel
theorem dX3_readFolk_76 : decode cX3_readFolk 76 = .ok (.invokevirtual 31, 3) := by decide +kernel
theorem dX3_readFolk_79 : decode cX3_readFolk 79 = .ok (.ireturn, 1) := by decide +kernel
theorem dX3_readOne_0 : decode cX3_readOne 0 = .ok (.aload_n 0, 1) := by decide +kernel
theorem dX3_readOne_1 : decode cX3_readOne 1 = .ok (.invokevirtual 35, 3) := by decide +kernel
theorem dX3_readOne_4 : decode cX3_readOne 4 = .ok (.invokestatic 38, 3) := by decide +kernel
theorem dX3_readOne_7 : decode cX3_readOne 7 = .ok (.istore_n 2, 1) := by decide +kernel
theorem dX3_readOne_8 : decode cX3_readOne 8 = .ok (.iload_n 2, 1) := by decide +kernel
theorem dX3_readOne_9 : decode cX3_readOne 9 = .ok (.ifCond .ge 5, 3) := by decide +kernel
theorem dX3_readOne_12 : decode cX3_readOne 12 = .ok (.iconst 0, 1) := by decide +kernel
theorem dX3_readOne_13 : decode cX3_readOne 13 = .ok (.ireturn, 1) := by decide +kernel
theorem dX3_readOne_14 : decode cX3_readOne 14 = .ok (.aload_n 0, 1) := by decide +kernel
theorem dX3_readOne_15 : decode cX3_readOne 15 = .ok (.dup, 1) := by decide +kernel
theorem dX3_readOne_16 : decode cX3_readOne 16 = .ok (.getfield 19, 3) := by decide +kernel
theorem dX3_readOne_19 : decode cX3_readOne 19 = .ok (.iconst 1, 1) := by decide +kernel
theorem dX3_readOne_20 : decode cX3_readOne 20 = .ok (.iadd, 1) := by decide +kernel
theorem dX3_readOne_21 : decode cX3_readOne 21 = .ok (.putfield 19, 3) := by decide +kernel
theorem dX3_readOne_24 : decode cX3_readOne 24 = .ok (.iconst 0, 1) := by decide +kernel
theorem dX3_readOne_25 : decode cX3_readOne 25 = .ok (.istore_n 3, 1) := by decide +kernel
theorem dX3_readOne_26 : decode cX3_readOne 26 = .ok (.aload_n 0, 1) := by decide +kernel
theorem dX3_readOne_27 : decode cX3_readOne 27 = .ok (.invokevirtual 35, 3) := by decide +kernel
theorem dX3_readOne_30 : decode cX3_readOne 30 = .ok (.istore 4, 2) := by decide +kernel
theorem dX3_readOne_32 : decode cX3_readOne 32 = .ok (.iload 4, 2) := by decide +kernel
theorem dX3_readOne_34 : decode cX3_readOne 34 = .ok (.bipush 43, 2) := by decide +kernel
theorem dX3_readOne_36 : decode cX3_readOne 36 = .ok (.if_icmp .eq 10, 3) := by decide +kernel
theorem dX3_readOne_39 : decode cX3_readOne 39 = .ok (.iload 4, 2) := by decide +kernel
theorem dX3_readOne_41 : decode cX3_readOne 41 = .ok (.bipush 45, 2) := by decide +kernel
theorem dX3_readOne_43 : decode cX3_readOne 43 = .ok (.if_icmp .ne 44, 3) := by decide +kernel
theorem dX3_readOne_46 : decode cX3_readOne 46 = .ok (.aload_n 0, 1) := by decide +kernel
theorem dX3_readOne_47 : decode cX3_readOne 47 = .ok (.dup, 1) := by decide +kernel
theorem dX3_readOne_48 : decode cX3_readOne 48 = .ok (.getfield 19, 3) := by decide +kernel
theorem dX3_readOne_51 : decode cX3_readOne 51 = .ok (.iconst 1, 1) := by decide +kernel
theorem dX3_readOne_52 : decode cX3_readOne 52 = .ok (.iadd, 1) := by decide +kernel
theorem dX3_readOne_53 : decode cX3_readOne 53 = .ok (.putfield 19, 3) := by decide +kernel
theorem dX3_readOne_56 : decode cX3_readOne 56 = .ok (.aload_n 0, 1) := by decide +kernel
theorem dX3_readOne_57 : decode cX3_readOne 57 = .ok (.iconst 0, 1) := by decide +kernel
theorem dX3_readOne_58 : decode cX3_readOne 58 = .ok (.iconst 3, 1) := by decide +kernel
theorem dX3_readOne_59 : decode cX3_readOne 59 = .ok (.invokevirtual 42, 3) := by decide +kernel
theorem dX3_readOne_62 : decode cX3_readOne 62 = .ok (.istore 5, 2) := by decide +kernel
theorem dX3_readOne_64 : decode cX3_readOne 64 = .ok (.iload 5, 2) := by decide +kernel
theorem dX3_readOne_66 : decode cX3_readOne 66 = .ok (.ifCond .ge 5, 3) := by decide +kernel
theorem dX3_readOne_69 : decode cX3_readOne 69 = .ok (.iconst 0, 1) := by decide +kernel
theorem dX3_readOne_70 : decode cX3_readOne 70 = .ok (.ireturn, 1) := by decide +kernel
theorem dX3_readOne_71 : decode cX3_readOne 71 = .ok (.iload 4, 2) := by decide +kernel
theorem dX3_readOne_73 : decode cX3_readOne 73 = .ok (.bipush 45, 2) := by decide +kernel
theorem dX3_readOne_75 : decode cX3_readOne 75 = .ok (.if_icmp .ne 9, 3) := by decide +kernel
theorem dX3_readOne_78 : decode cX3_readOne 78 = .ok (.iload 5, 2) := by decide +kernel
theorem dX3_readOne_80 : decode cX3_readOne 80 = .ok (.ineg, 1) := by decide +kernel
theorem dX3_readOne_81 : decode cX3_readOne 81 = .ok (.goto 5, 3) := by decide +kernel
theorem dX3_readOne_84 : decode cX3_readOne 84 = .ok (.iload 5, 2) := by decide +kernel
theorem dX3_readOne_86 : decode cX3_readOne 86 = .ok (.istore_n 3, 1) := by decide +kernel
theorem dX3_readOne_87 : decode cX3_readOne 87 = .ok (.iconst 1, 1) := by decide +kernel
theorem dX3_readOne_88 : decode cX3_readOne 88 = .ok (.istore 5, 2) := by decide +kernel
theorem dX3_readOne_90 : decode cX3_readOne 90 = .ok (.aload_n 0, 1) := by decide +kernel
theorem dX3_readOne_91 : decode cX3_readOne 91 = .ok (.invokevirtual 35, 3) := by decide +kernel
theorem dX3_readOne_94 : decode cX3_readOne 94 = .ok (.bipush 114, 2) := by decide +kernel
theorem dX3_readOne_96 : decode cX3_readOne 96 = .ok (.if_icmp .ne 29, 3) := by decide +kernel
theorem dX3_readOne_99 : decode cX3_readOne 99 = .ok (.aload_n 0, 1) := by decide +kernel
theorem dX3_readOne_100 : decode cX3_readOne 100 = .ok (.dup, 1) := by decide +kernel
theorem dX3_readOne_101 : decode cX3_readOne 101 = .ok (.getfield 19, 3) := by decide +kernel
theorem dX3_readOne_104 : decode cX3_readOne 104 = .ok (.iconst 1, 1) := by decide +kernel
theorem dX3_readOne_105 : decode cX3_readOne 105 = .ok (.iadd, 1) := by decide +kernel
theorem dX3_readOne_106 : decode cX3_readOne 106 = .ok (.putfield 19, 3) := by decide +kernel
theorem dX3_readOne_109 : decode cX3_readOne 109 = .ok (.aload_n 0, 1) := by decide +kernel
theorem dX3_readOne_110 : decode cX3_readOne 110 = .ok (.iconst 1, 1) := by decide +kernel
theorem dX3_readOne_111 : decode cX3_readOne 111 = .ok (.bipush 9, 2) := by decide +kernel
theorem dX3_readOne_113 : decode cX3_readOne 113 = .ok (.invokevirtual 42, 3) := by decide +kernel
theorem dX3_readOne_116 : decode cX3_readOne 116 = .ok (.istore 5, 2) := by decide +kernel
theorem dX3_readOne_118 : decode cX3_readOne 118 = .ok (.iload 5, 2) := by decide +kernel
theorem dX3_readOne_120 : decode cX3_readOne 120 = .ok (.ifCond .ge 5, 3) := by decide +kernel
theorem dX3_readOne_123 : decode cX3_readOne 123 = .ok (.iconst 0, 1) := by decide +kernel
theorem dX3_readOne_124 : decode cX3_readOne 124 = .ok (.ireturn, 1) := by decide +kernel
theorem dX3_readOne_125 : decode cX3_readOne 125 = .ok (.aload_n 1, 1) := by decide +kernel
theorem dX3_readOne_126 : decode cX3_readOne 126 = .ok (.iload_n 2, 1) := by decide +kernel
theorem dX3_readOne_127 : decode cX3_readOne 127 = .ok (.iload_n 3, 1) := by decide +kernel
theorem dX3_readOne_128 : decode cX3_readOne 128 = .ok (.iload 5, 2) := by decide +kernel
theorem dX3_readOne_130 : decode cX3_readOne 130 = .ok (.invokevirtual 46, 3) := by decide +kernel
theorem dX3_readOne_133 : decode cX3_readOne 133 = .ok (.ifCond .lt 7, 3) := by decide +kernel
theorem dX3_readOne_136 : decode cX3_readOne 136 = .ok (.iconst 1, 1) := by decide +kernel
theorem dX3_readOne_137 : decode cX3_readOne 137 = .ok (.goto 4, 3) := by decide +kernel
theorem dX3_readOne_140 : decode cX3_readOne 140 = .ok (.iconst 0, 1) := by decide +kernel
theorem dX3_readOne_141 : decode cX3_readOne 141 = .ok (.ireturn, 1) := by decide +kernel
theorem dX3_kindBy_0 : decode cX3_kindBy 0 = .ok (.iload_n 0, 1) := by decide +kernel
theorem dX3_kindBy_1 : decode cX3_kindBy 1 = .ok (.tableswitch 63 109 118 #[61, 63, 63, 55, 63, 63, 57, 63, 63, 59], 55) := by decide +kernel
theorem dX3_kindBy_56 : decode cX3_kindBy 56 = .ok (.iconst 0, 1) := by decide +kernel
theorem dX3_kindBy_57 : decode cX3_kindBy 57 = .ok (.ireturn, 1) := by decide +kernel
theorem dX3_kindBy_58 : decode cX3_kindBy 58 = .ok (.iconst 1, 1) := by decide +kernel
theorem dX3_kindBy_59 : decode cX3_kindBy 59 = .ok (.ireturn, 1) := by decide +kernel
theorem dX3_kindBy_60 : decode cX3_kindBy 60 = .ok (.iconst 2, 1) := by decide +kernel
theorem dX3_kindBy_61 : decode cX3_kindBy 61 = .ok (.ireturn, 1) := by decide +kernel
theorem dX3_kindBy_62 : decode cX3_kindBy 62 = .ok (.iconst 3, 1) := by decide +kernel
theorem dX3_kindBy_63 : decode cX3_kindBy 63 = .ok (.ireturn, 1) := by decide +kernel
theorem dX3_kindBy_64 : decode cX3_kindBy 64 = .ok (.iconst (-1), 1) := by decide +kernel
theorem dX3_kindBy_65 : decode cX3_kindBy 65 = .ok (.ireturn, 1) := by decide +kernel
theorem dX3_readDigit_0 : decode cX3_readDigit 0 = .ok (.aload_n 0, 1) := by decide +kernel
theorem dX3_readDigit_1 : decode cX3_readDigit 1 = .ok (.invokevirtual 35, 3) := by decide +kernel
theorem dX3_readDigit_4 : decode cX3_readDigit 4 = .ok (.bipush 48, 2) := by decide +kernel
theorem dX3_readDigit_6 : decode cX3_readDigit 6 = .ok (.isub, 1) := by decide +kernel
theorem dX3_readDigit_7 : decode cX3_readDigit 7 = .ok (.istore_n 3, 1) := by decide +kernel
theorem dX3_readDigit_8 : decode cX3_readDigit 8 = .ok (.iload_n 3, 1) := by decide +kernel
theorem dX3_readDigit_9 : decode cX3_readDigit 9 = .ok (.iload_n 1, 1) := by decide +kernel
theorem dX3_readDigit_10 : decode cX3_readDigit 10 = .ok (.iload_n 2, 1) := by decide +kernel
theorem dX3_readDigit_11 : decode cX3_readDigit 11 = .ok (.invokestatic 50, 3) := by decide +kernel
theorem dX3_readDigit_14 : decode cX3_readDigit 14 = .ok (.ifCond .ne 5, 3) := by decide +kernel
theorem dX3_readDigit_17 : decode cX3_readDigit 17 = .ok (.iconst (-1), 1) := by decide +kernel
theorem dX3_readDigit_18 : decode cX3_readDigit 18 = .ok (.ireturn, 1) := by decide +kernel
theorem dX3_readDigit_19 : decode cX3_readDigit 19 = .ok (.aload_n 0, 1) := by decide +kernel
theorem dX3_readDigit_20 : decode cX3_readDigit 20 = .ok (.dup, 1) := by decide +kernel
theorem dX3_readDigit_21 : decode cX3_readDigit 21 = .ok (.getfield 19, 3) := by decide +kernel
theorem dX3_readDigit_24 : decode cX3_readDigit 24 = .ok (.iconst 1, 1) := by decide +kernel
theorem dX3_readDigit_25 : decode cX3_readDigit 25 = .ok (.iadd, 1) := by decide +kernel
theorem dX3_readDigit_26 : decode cX3_readDigit 26 = .ok (.putfield 19, 3) := by decide +kernel
theorem dX3_readDigit_29 : decode cX3_readDigit 29 = .ok (.iload_n 3, 1) := by decide +kernel
theorem dX3_readDigit_30 : decode cX3_readDigit 30 = .ok (.ireturn, 1) := by decide +kernel
theorem dX3_readPlan_0 : decode cX3_readPlan 0 = .ok (.aload_n 0, 1) := by decide +kernel
theorem dX3_readPlan_1 : decode cX3_readPlan 1 = .ok (.iconst 0, 1) := by decide +kernel
theorem dX3_readPlan_2 : decode cX3_readPlan 2 = .ok (.putfield 19, 3) := by decide +kernel
theorem dX3_readPlan_5 : decode cX3_readPlan 5 = .ok (.iconst 0, 1) := by decide +kernel
theorem dX3_readPlan_6 : decode cX3_readPlan 6 = .ok (.istore_n 3, 1) := by decide +kernel
theorem dX3_readPlan_7 : decode cX3_readPlan 7 = .ok (.iload_n 3, 1) := by decide +kernel
theorem dX3_readPlan_8 : decode cX3_readPlan 8 = .ok (.bipush 24, 2) := by decide +kernel
theorem dX3_readPlan_10 : decode cX3_readPlan 10 = .ok (.if_icmp .ge 81, 3) := by decide +kernel
theorem dX3_readPlan_13 : decode cX3_readPlan 13 = .ok (.aload_n 0, 1) := by decide +kernel
theorem dX3_readPlan_14 : decode cX3_readPlan 14 = .ok (.invokevirtual 35, 3) := by decide +kernel
theorem dX3_readPlan_17 : decode cX3_readPlan 17 = .ok (.istore 4, 2) := by decide +kernel
theorem dX3_readPlan_19 : decode cX3_readPlan 19 = .ok (.iload 4, 2) := by decide +kernel
theorem dX3_readPlan_21 : decode cX3_readPlan 21 = .ok (.ifCond .ne 9, 3) := by decide +kernel
theorem dX3_readPlan_24 : decode cX3_readPlan 24 = .ok (.iload_n 3, 1) := by decide +kernel
theorem dX3_readPlan_25 : decode cX3_readPlan 25 = .ok (.ifCond .le 5, 3) := by decide +kernel
theorem dX3_readPlan_28 : decode cX3_readPlan 28 = .ok (.iload_n 3, 1) := by decide +kernel
theorem dX3_readPlan_29 : decode cX3_readPlan 29 = .ok (.ireturn, 1) := by decide +kernel
theorem dX3_readPlan_30 : decode cX3_readPlan 30 = .ok (.iload 4, 2) := by decide +kernel
theorem dX3_readPlan_32 : decode cX3_readPlan 32 = .ok (.bipush 46, 2) := by decide +kernel
theorem dX3_readPlan_34 : decode cX3_readPlan 34 = .ok (.if_icmp .ne 8, 3) := by decide +kernel
theorem dX3_readPlan_37 : decode cX3_readPlan 37 = .ok (.bipush 9, 2) := by decide +kernel
theorem dX3_readPlan_39 : decode cX3_readPlan 39 = .ok (.goto 8, 3) := by decide +kernel
theorem dX3_readPlan_42 : decode cX3_readPlan 42 = .ok (.iload 4, 2) := by decide +kernel
theorem dX3_readPlan_44 : decode cX3_readPlan 44 = .ok (.bipush 48, 2) := by decide +kernel
theorem dX3_readPlan_46 : decode cX3_readPlan 46 = .ok (.isub, 1) := by decide +kernel
theorem dX3_readPlan_47 : decode cX3_readPlan 47 = .ok (.istore 5, 2) := by decide +kernel
theorem dX3_readPlan_49 : decode cX3_readPlan 49 = .ok (.iload 4, 2) := by decide +kernel
theorem dX3_readPlan_51 : decode cX3_readPlan 51 = .ok (.bipush 46, 2) := by decide +kernel
theorem dX3_readPlan_53 : decode cX3_readPlan 53 = .ok (.if_icmp .eq 17, 3) := by decide +kernel
theorem dX3_readPlan_56 : decode cX3_readPlan 56 = .ok (.aload_n 2, 1) := by decide +kernel
theorem dX3_readPlan_57 : decode cX3_readPlan 57 = .ok (.iload 5, 2) := by decide +kernel
theorem dX3_readPlan_59 : decode cX3_readPlan 59 = .ok (.invokevirtual 54, 3) := by decide +kernel
theorem dX3_readPlan_62 : decode cX3_readPlan 62 = .ok (.ifCond .ne 8, 3) := by decide +kernel
theorem dX3_readPlan_65 : decode cX3_readPlan 65 = .ok (.aload_n 0, 1) := by decide +kernel
theorem dX3_readPlan_66 : decode cX3_readPlan 66 = .ok (.invokevirtual 31, 3) := by decide +kernel
theorem dX3_readPlan_69 : decode cX3_readPlan 69 = .ok (.ireturn, 1) := by decide +kernel
theorem dX3_readPlan_70 : decode cX3_readPlan 70 = .ok (.aload_n 1, 1) := by decide +kernel
theorem dX3_readPlan_71 : decode cX3_readPlan 71 = .ok (.iload_n 3, 1) := by decide +kernel
theorem dX3_readPlan_72 : decode cX3_readPlan 72 = .ok (.iload 5, 2) := by decide +kernel
theorem dX3_readPlan_74 : decode cX3_readPlan 74 = .ok (.iastore, 1) := by decide +kernel
theorem dX3_readPlan_75 : decode cX3_readPlan 75 = .ok (.aload_n 0, 1) := by decide +kernel
theorem dX3_readPlan_76 : decode cX3_readPlan 76 = .ok (.dup, 1) := by decide +kernel
theorem dX3_readPlan_77 : decode cX3_readPlan 77 = .ok (.getfield 19, 3) := by decide +kernel
theorem dX3_readPlan_80 : decode cX3_readPlan 80 = .ok (.iconst 1, 1) := by decide +kernel
theorem dX3_readPlan_81 : decode cX3_readPlan 81 = .ok (.iadd, 1) := by decide +kernel
theorem dX3_readPlan_82 : decode cX3_readPlan 82 = .ok (.putfield 19, 3) := by decide +kernel
theorem dX3_readPlan_85 : decode cX3_readPlan 85 = .ok (.iinc 3 1, 3) := by decide +kernel
theorem dX3_readPlan_88 : decode cX3_readPlan 88 = .ok (.goto (-81), 3) := by decide +kernel
theorem dX3_readPlan_91 : decode cX3_readPlan 91 = .ok (.aload_n 0, 1) := by decide +kernel
theorem dX3_readPlan_92 : decode cX3_readPlan 92 = .ok (.invokevirtual 35, 3) := by decide +kernel
theorem dX3_readPlan_95 : decode cX3_readPlan 95 = .ok (.ifCond .ne 8, 3) := by decide +kernel
theorem dX3_readPlan_98 : decode cX3_readPlan 98 = .ok (.bipush 24, 2) := by decide +kernel
theorem dX3_readPlan_100 : decode cX3_readPlan 100 = .ok (.goto 7, 3) := by decide +kernel
theorem dX3_readPlan_103 : decode cX3_readPlan 103 = .ok (.aload_n 0, 1) := by decide +kernel
theorem dX3_readPlan_104 : decode cX3_readPlan 104 = .ok (.invokevirtual 31, 3) := by decide +kernel
theorem dX3_readPlan_107 : decode cX3_readPlan 107 = .ok (.ireturn, 1) := by decide +kernel
theorem dX4_init_0 : decode cX4_init 0 = .ok (.aload_n 0, 1) := by decide +kernel
theorem dX4_init_1 : decode cX4_init 1 = .ok (.invokespecial 3, 3) := by decide +kernel
theorem dX4_init_4 : decode cX4_init 4 = .ok (.aload_n 0, 1) := by decide +kernel
theorem dX4_init_5 : decode cX4_init 5 = .ok (.new 9, 3) := by decide +kernel
theorem dX4_init_8 : decode cX4_init 8 = .ok (.dup, 1) := by decide +kernel
theorem dX4_init_9 : decode cX4_init 9 = .ok (.invokespecial 11, 3) := by decide +kernel
theorem dX4_init_12 : decode cX4_init 12 = .ok (.putfield 12, 3) := by decide +kernel
theorem dX4_init_15 : decode cX4_init 15 = .ok (.aload_n 0, 1) := by decide +kernel
theorem dX4_init_16 : decode cX4_init 16 = .ok (.bipush 6, 2) := by decide +kernel
theorem dX4_init_18 : decode cX4_init 18 = .ok (.newarray .int, 2) := by decide +kernel
theorem dX4_init_20 : decode cX4_init 20 = .ok (.putfield 18, 3) := by decide +kernel
theorem dX4_init_23 : decode cX4_init 23 = .ok (.aload_n 0, 1) := by decide +kernel
theorem dX4_init_24 : decode cX4_init 24 = .ok (.bipush 24, 2) := by decide +kernel
theorem dX4_init_26 : decode cX4_init 26 = .ok (.newarray .int, 2) := by decide +kernel
theorem dX4_init_28 : decode cX4_init 28 = .ok (.putfield 22, 3) := by decide +kernel
theorem dX4_init_31 : decode cX4_init 31 = .ok (.aload_n 0, 1) := by decide +kernel
theorem dX4_init_32 : decode cX4_init 32 = .ok (.iconst 0, 1) := by decide +kernel
theorem dX4_init_33 : decode cX4_init 33 = .ok (.putfield 25, 3) := by decide +kernel
theorem dX4_init_36 : decode cX4_init 36 = .ok (.aload_n 0, 1) := by decide +kernel
theorem dX4_init_37 : decode cX4_init 37 = .ok (.iconst 0, 1) := by decide +kernel
theorem dX4_init_38 : decode cX4_init 38 = .ok (.putfield 29, 3) := by decide +kernel
theorem dX4_init_41 : decode cX4_init 41 = .ok (.aload_n 0, 1) := by decide +kernel
theorem dX4_init_42 : decode cX4_init 42 = .ok (.sipush 200, 3) := by decide +kernel
theorem dX4_init_45 : decode cX4_init 45 = .ok (.putfield 32, 3) := by decide +kernel
theorem dX4_init_48 : decode cX4_init 48 = .ok (.aload_n 0, 1) := by decide +kernel
theorem dX4_init_49 : decode cX4_init 49 = .ok (.iconst 1, 1) := by decide +kernel
theorem dX4_init_50 : decode cX4_init 50 = .ok (.putfield 35, 3) := by decide +kernel
theorem dX4_init_53 : decode cX4_init 53 = .ok (.aload_n 0, 1) := by decide +kernel
theorem dX4_init_54 : decode cX4_init 54 = .ok (.iconst 0, 1) := by decide +kernel
theorem dX4_init_55 : decode cX4_init 55 = .ok (.putfield 38, 3) := by decide +kernel
theorem dX4_init_58 : decode cX4_init 58 = .ok (.aload_n 0, 1) := by decide +kernel
theorem dX4_init_59 : decode cX4_init 59 = .ok (.iconst 0, 1) := by decide +kernel
theorem dX4_init_60 : decode cX4_init 60 = .ok (.putfield 41, 3) := by decide +kernel
theorem dX4_init_63 : decode cX4_init 63 = .ok (.aload_n 0, 1) := by decide +kernel
theorem dX4_init_64 : decode cX4_init 64 = .ok (.iconst 0, 1) := by decide +kernel
theorem dX4_init_65 : decode cX4_init 65 = .ok (.putfield 44, 3) := by decide +kernel
theorem dX4_init_68 : decode cX4_init 68 = .ok (.aload_n 0, 1) := by decide +kernel
theorem dX4_init_69 : decode cX4_init 69 = .ok (.bipush 9, 2) := by decide +kernel
theorem dX4_init_71 : decode cX4_init 71 = .ok (.putfield 47, 3) := by decide +kernel
theorem dX4_init_74 : decode cX4_init 74 = .ok (.aload_n 0, 1) := by decide +kernel
theorem dX4_init_75 : decode cX4_init 75 = .ok (.iconst 1, 1) := by decide +kernel
theorem dX4_init_76 : decode cX4_init 76 = .ok (.putfield 50, 3) := by decide +kernel
theorem dX4_init_79 : decode cX4_init 79 = .ok (.return_, 1) := by decide +kernel
theorem dX4_become_0 : decode cX4_become 0 = .ok (.aload_n 0, 1) := by decide +kernel
theorem dX4_become_1 : decode cX4_become 1 = .ok (.getfield 12, 3) := by decide +kernel
theorem dX4_become_4 : decode cX4_become 4 = .ok (.aload_n 1, 1) := by decide +kernel
theorem dX4_become_5 : decode cX4_become 5 = .ok (.getfield 12, 3) := by decide +kernel
theorem dX4_become_8 : decode cX4_become 8 = .ok (.invokevirtual 53, 3) := by decide +kernel
theorem dX4_become_11 : decode cX4_become 11 = .ok (.aload_n 1, 1) := by decide +kernel
theorem dX4_become_12 : decode cX4_become 12 = .ok (.getfield 18, 3) := by decide +kernel
theorem dX4_become_15 : decode cX4_become 15 = .ok (.iconst 0, 1) := by decide +kernel
theorem dX4_become_16 : decode cX4_become 16 = .ok (.aload_n 0, 1) := by decide +kernel
theorem dX4_become_17 : decode cX4_become 17 = .ok (.getfield 18, 3) := by decide +kernel
theorem dX4_become_20 : decode cX4_become 20 = .ok (.iconst 0, 1) := by decide +kernel
theorem dX4_become_21 : decode cX4_become 21 = .ok (.bipush 6, 2) := by decide +kernel
theorem dX4_become_23 : decode cX4_become 23 = .ok (.invokestatic 57, 3) := by decide +kernel
theorem dX4_become_26 : decode cX4_become 26 = .ok (.aload_n 1, 1) := by decide +kernel
theorem dX4_become_27 : decode cX4_become 27 = .ok (.getfield 22, 3) := by decide +kernel
theorem dX4_become_30 : decode cX4_become 30 = .ok (.iconst 0, 1) := by decide +kernel
theorem dX4_become_31 : decode cX4_become 31 = .ok (.aload_n 0, 1) := by decide +kernel
theorem dX4_become_32 : decode cX4_become 32 = .ok (.getfield 22, 3) := by decide +kernel
theorem dX4_become_35 : decode cX4_become 35 = .ok (.iconst 0, 1) := by decide +kernel
theorem dX4_become_36 : decode cX4_become 36 = .ok (.bipush 24, 2) := by decide +kernel
theorem dX4_become_38 : decode cX4_become 38 = .ok (.invokestatic 57, 3) := by decide +kernel
theorem dX4_become_41 : decode cX4_become 41 = .ok (.aload_n 0, 1) := by decide +kernel
theorem dX4_become_42 : decode cX4_become 42 = .ok (.aload_n 1, 1) := by decide +kernel
theorem dX4_become_43 : decode cX4_become 43 = .ok (.getfield 25, 3) := by decide +kernel
theorem dX4_become_46 : decode cX4_become 46 = .ok (.putfield 25, 3) := by decide +kernel
theorem dX4_become_49 : decode cX4_become 49 = .ok (.aload_n 0, 1) := by decide +kernel
theorem dX4_become_50 : decode cX4_become 50 = .ok (.aload_n 1, 1) := by decide +kernel
theorem dX4_become_51 : decode cX4_become 51 = .ok (.getfield 29, 3) := by decide +kernel
theorem dX4_become_54 : decode cX4_become 54 = .ok (.putfield 29, 3) := by decide +kernel
theorem dX4_become_57 : decode cX4_become 57 = .ok (.aload_n 0, 1) := by decide +kernel
theorem dX4_become_58 : decode cX4_become 58 = .ok (.aload_n 1, 1) := by decide +kernel
theorem dX4_become_59 : decode cX4_become 59 = .ok (.getfield 32, 3) := by decide +kernel
theorem dX4_become_62 : decode cX4_become 62 = .ok (.putfield 32, 3) := by decide +kernel
theorem dX4_become_65 : decode cX4_become 65 = .ok (.aload_n 0, 1) := by decide +kernel
theorem dX4_become_66 : decode cX4_become 66 = .ok (.aload_n 1, 1) := by decide +kernel
theorem dX4_become_67 : decode cX4_become 67 = .ok (.getfield 35, 3) := by decide +kernel
theorem dX4_become_70 : decode cX4_become 70 = .ok (.putfield 35, 3) := by decide +kernel
theorem dX4_become_73 : decode cX4_become 73 = .ok (.aload_n 0, 1) := by decide +kernel
theorem dX4_become_74 : decode cX4_become 74 = .ok (.aload_n 1, 1) := by decide +kernel
theorem dX4_become_75 : decode cX4_become 75 = .ok (.getfield 38, 3) := by decide +kernel
theorem dX4_become_78 : decode cX4_become 78 = .ok (.putfield 38, 3) := by decide +kernel
theorem dX4_become_81 : decode cX4_become 81 = .ok (.aload_n 0, 1) := by decide +kernel
theorem dX4_become_82 : decode cX4_become 82 = .ok (.aload_n 1, 1) := by decide +kernel
theorem dX4_become_83 : decode cX4_become 83 = .ok (.getfield 41, 3) := by decide +kernel
theorem dX4_become_86 : decode cX4_become 86 = .ok (.putfield 41, 3) := by decide +kernel
theorem dX4_become_89 : decode cX4_become 89 = .ok (.aload_n 0, 1) := by decide +kernel
theorem dX4_become_90 : decode cX4_become 90 = .ok (.aload_n 1, 1) := by decide +kernel
theorem dX4_become_91 : decode cX4_become 91 = .ok (.getfield 44, 3) := by decide +kernel
theorem dX4_become_94 : decode cX4_become 94 = .ok (.putfield 44, 3) := by decide +kernel
theorem dX4_become_97 : decode cX4_become 97 = .ok (.aload_n 0, 1) := by decide +kernel
theorem dX4_become_98 : decode cX4_become 98 = .ok (.aload_n 1, 1) := by decide +kernel
theorem dX4_become_99 : decode cX4_become 99 = .ok (.getfield 47, 3) := by decide +kernel
theorem dX4_become_102 : decode cX4_become 102 = .ok (.putfield 47, 3) := by decide +kernel
theorem dX4_become_105 : decode cX4_become 105 = .ok (.aload_n 0, 1) := by decide +kernel
theorem dX4_become_106 : decode cX4_become 106 = .ok (.aload_n 1, 1) := by decide +kernel
theorem dX4_become_107 : decode cX4_become 107 = .ok (.getfield 50, 3) := by decide +kernel
theorem dX4_become_110 : decode cX4_become 110 = .ok (.putfield 50, 3) := by decide +kernel
theorem dX4_become_113 : decode cX4_become 113 = .ok (.return_, 1) := by decide +kernel
theorem dX4_settle_0 : decode cX4_settle 0 = .ok (.aload_n 0, 1) := by decide +kernel
theorem dX4_settle_1 : decode cX4_settle 1 = .ok (.getfield 12, 3) := by decide +kernel
theorem dX4_settle_4 : decode cX4_settle 4 = .ok (.aload_n 1, 1) := by decide +kernel
theorem dX4_settle_5 : decode cX4_settle 5 = .ok (.invokevirtual 53, 3) := by decide +kernel
theorem dX4_settle_8 : decode cX4_settle 8 = .ok (.iconst 0, 1) := by decide +kernel
theorem dX4_settle_9 : decode cX4_settle 9 = .ok (.istore_n 2, 1) := by decide +kernel
theorem dX4_settle_10 : decode cX4_settle 10 = .ok (.iload_n 2, 1) := by decide +kernel
theorem dX4_settle_11 : decode cX4_settle 11 = .ok (.bipush 6, 2) := by decide +kernel
theorem dX4_settle_13 : decode cX4_settle 13 = .ok (.if_icmp .ge 16, 3) := by decide +kernel
theorem dX4_settle_16 : decode cX4_settle 16 = .ok (.aload_n 0, 1) := by decide +kernel
theorem dX4_settle_17 : decode cX4_settle 17 = .ok (.getfield 18, 3) := by decide +kernel
theorem dX4_settle_20 : decode cX4_settle 20 = .ok (.iload_n 2, 1) := by decide +kernel
theorem dX4_settle_21 : decode cX4_settle 21 = .ok (.iconst 0, 1) := by decide +kernel
theorem dX4_settle_22 : decode cX4_settle 22 = .ok (.iastore, 1) := by decide +kernel
theorem dX4_settle_23 : decode cX4_settle 23 = .ok (.iinc 2 1, 3) := by decide +kernel
theorem dX4_settle_26 : decode cX4_settle 26 = .ok (.goto (-16), 3) := by decide +kernel
theorem dX4_settle_29 : decode cX4_settle 29 = .ok (.aload_n 0, 1) := by decide +kernel
theorem dX4_settle_30 : decode cX4_settle 30 = .ok (.bipush 9, 2) := by decide +kernel
theorem dX4_settle_32 : decode cX4_settle 32 = .ok (.putfield 47, 3) := by decide +kernel
theorem dX4_settle_35 : decode cX4_settle 35 = .ok (.aload_n 0, 1) := by decide +kernel
theorem dX4_settle_36 : decode cX4_settle 36 = .ok (.iconst 0, 1) := by decide +kernel
theorem dX4_settle_37 : decode cX4_settle 37 = .ok (.putfield 25, 3) := by decide +kernel
theorem dX4_settle_40 : decode cX4_settle 40 = .ok (.return_, 1) := by decide +kernel
theorem dX4_adopt_0 : decode cX4_adopt 0 = .ok (.aload_n 0, 1) := by decide +kernel
theorem dX4_adopt_1 : decode cX4_adopt 1 = .ok (.iload_n 2, 1) := by decide +kernel
theorem dX4_adopt_2 : decode cX4_adopt 2 = .ok (.bipush 24, 2) := by decide +kernel
theorem dX4_adopt_4 : decode cX4_adopt 4 = .ok (.invokestatic 63, 3) := by decide +kernel
theorem dX4_adopt_7 : decode cX4_adopt 7 = .ok (.putfield 25, 3) := by decide +kernel
theorem dX4_adopt_10 : decode cX4_adopt 10 = .ok (.aload_n 1, 1) := by decide +kernel
theorem dX4_adopt_11 : decode cX4_adopt 11 = .ok (.iconst 0, 1) := by decide +kernel
theorem dX4_adopt_12 : decode cX4_adopt 12 = .ok (.aload_n 0, 1) := by decide +kernel
theorem dX4_adopt_13 : decode cX4_adopt 13 = .ok (.getfield 22, 3) := by decide +kernel
theorem dX4_adopt_16 : decode cX4_adopt 16 = .ok (.iconst 0, 1) := by decide +kernel
theorem dX4_adopt_17 : decode cX4_adopt 17 = .ok (.aload_n 0, 1) := by decide +kernel
theorem dX4_adopt_18 : decode cX4_adopt 18 = .ok (.getfield 25, 3) := by decide +kernel
theorem dX4_adopt_21 : decode cX4_adopt 21 = .ok (.invokestatic 57, 3) := by decide +kernel
theorem dX4_adopt_24 : decode cX4_adopt 24 = .ok (.return_, 1) := by decide +kernel
theorem dX4_mayDraw_0 : decode cX4_mayDraw 0 = .ok (.aload_n 0, 1) := by decide +kernel
theorem dX4_mayDraw_1 : decode cX4_mayDraw 1 = .ok (.getfield 12, 3) := by decide +kernel
theorem dX4_mayDraw_4 : decode cX4_mayDraw 4 = .ok (.iload_n 1, 1) := by decide +kernel
theorem dX4_mayDraw_5 : decode cX4_mayDraw 5 = .ok (.invokevirtual 69, 3) := by decide +kernel
theorem dX4_mayDraw_8 : decode cX4_mayDraw 8 = .ok (.ifCond .eq 16, 3) := by decide +kernel
theorem dX4_mayDraw_11 : decode cX4_mayDraw 11 = .ok (.aload_n 0, 1) := by decide +kernel
theorem dX4_mayDraw_12 : decode cX4_mayDraw 12 = .ok (.getfield 18, 3) := by decide +kernel
theorem dX4_mayDraw_15 : decode cX4_mayDraw 15 = .ok (.iload_n 1, 1) := by decide +kernel
theorem dX4_mayDraw_16 : decode cX4_mayDraw 16 = .ok (.iaload, 1) := by decide +kernel
theorem dX4_mayDraw_17 : decode cX4_mayDraw 17 = .ok (.ifCond .ne 7, 3) := by decide +kernel
theorem dX4_mayDraw_20 : decode cX4_mayDraw 20 = .ok (.iconst 1, 1) := by decide +kernel
theorem dX4_mayDraw_21 : decode cX4_mayDraw 21 = .ok (.goto 4, 3) := by decide +kernel
theorem dX4_mayDraw_24 : decode cX4_mayDraw 24 = .ok (.iconst 0, 1) := by decide +kernel
theorem dX4_mayDraw_25 : decode cX4_mayDraw 25 = .ok (.ireturn, 1) := by decide +kernel
theorem dX4_hasHours_0 : decode cX4_hasHours 0 = .ok (.aload_n 0, 1) := by decide +kernel
theorem dX4_hasHours_1 : decode cX4_hasHours 1 = .ok (.getfield 44, 3) := by decide +kernel
theorem dX4_hasHours_4 : decode cX4_hasHours 4 = .ok (.iload_n 1, 1) := by decide +kernel
theorem dX4_hasHours_5 : decode cX4_hasHours 5 = .ok (.iadd, 1) := by decide +kernel
theorem dX4_hasHours_6 : decode cX4_hasHours 6 = .ok (.sipush 9999, 3) := by decide +kernel
theorem dX4_hasHours_9 : decode cX4_hasHours 9 = .ok (.if_icmp .gt 7, 3) := by decide +kernel
theorem dX4_hasHours_12 : decode cX4_hasHours 12 = .ok (.iconst 1, 1) := by decide +kernel
theorem dX4_hasHours_13 : decode cX4_hasHours 13 = .ok (.goto 4, 3) := by decide +kernel
theorem dX4_hasHours_16 : decode cX4_hasHours 16 = .ok (.iconst 0, 1) := by decide +kernel
theorem dX4_hasHours_17 : decode cX4_hasHours 17 = .ok (.ireturn, 1) := by decide +kernel
theorem dX4_givesAt_0 : decode cX4_givesAt 0 = .ok (.aload_n 0, 1) := by decide +kernel
theorem dX4_givesAt_1 : decode cX4_givesAt 1 = .ok (.getfield 32, 3) := by decide +kernel
theorem dX4_givesAt_4 : decode cX4_givesAt 4 = .ok (.aload_n 0, 1) := by decide +kernel
theorem dX4_givesAt_5 : decode cX4_givesAt 5 = .ok (.getfield 12, 3) := by decide +kernel
theorem dX4_givesAt_8 : decode cX4_givesAt 8 = .ok (.iload_n 1, 1) := by decide +kernel
theorem dX4_givesAt_9 : decode cX4_givesAt 9 = .ok (.iload_n 2, 1) := by decide +kernel
theorem dX4_givesAt_10 : decode cX4_givesAt 10 = .ok (.invokevirtual 73, 3) := by decide +kernel
theorem dX4_givesAt_13 : decode cX4_givesAt 13 = .ok (.invokestatic 63, 3) := by decide +kernel
theorem dX4_givesAt_16 : decode cX4_givesAt 16 = .ok (.istore_n 3, 1) := by decide +kernel
theorem dX4_givesAt_17 : decode cX4_givesAt 17 = .ok (.aload_n 0, 1) := by decide +kernel
theorem dX4_givesAt_18 : decode cX4_givesAt 18 = .ok (.getfield 12, 3) := by decide +kernel
theorem dX4_givesAt_21 : decode cX4_givesAt 21 = .ok (.iload_n 1, 1) := by decide +kernel
theorem dX4_givesAt_22 : decode cX4_givesAt 22 = .ok (.iload_n 2, 1) := by decide +kernel
theorem dX4_givesAt_23 : decode cX4_givesAt 23 = .ok (.invokevirtual 76, 3) := by decide +kernel
theorem dX4_givesAt_26 : decode cX4_givesAt 26 = .ok (.ifCond .eq 7, 3) := by decide +kernel
theorem dX4_givesAt_29 : decode cX4_givesAt 29 = .ok (.iload_n 3, 1) := by decide +kernel
theorem dX4_givesAt_30 : decode cX4_givesAt 30 = .ok (.goto 7, 3) := by decide +kernel
theorem dX4_givesAt_33 : decode cX4_givesAt 33 = .ok (.iload_n 3, 1) := by decide +kernel
theorem dX4_givesAt_34 : decode cX4_givesAt 34 = .ok (.bipush 10, 2) := by decide +kernel
theorem dX4_givesAt_36 : decode cX4_givesAt 36 = .ok (.iadd, 1) := by decide +kernel
theorem dX4_givesAt_37 : decode cX4_givesAt 37 = .ok (.ireturn, 1) := by decide +kernel
theorem dX4_passHour_0 : decode cX4_passHour 0 = .ok (.iconst 0, 1) := by decide +kernel
theorem dX4_passHour_1 : decode cX4_passHour 1 = .ok (.istore_n 2, 1) := by decide +kernel
theorem dX4_passHour_2 : decode cX4_passHour 2 = .ok (.aload_n 0, 1) := by decide +kernel
theorem dX4_passHour_3 : decode cX4_passHour 3 = .ok (.iload_n 1, 1) := by decide +kernel
theorem dX4_passHour_4 : decode cX4_passHour 4 = .ok (.invokevirtual 80, 3) := by decide +kernel
theorem dX4_passHour_7 : decode cX4_passHour 7 = .ok (.ifCond .eq 17, 3) := by decide +kernel
theorem dX4_passHour_10 : decode cX4_passHour 10 = .ok (.aload_n 0, 1) := by decide +kernel
theorem dX4_passHour_11 : decode cX4_passHour 11 = .ok (.iload_n 1, 1) := by decide +kernel
theorem dX4_passHour_12 : decode cX4_passHour 12 = .ok (.invokevirtual 83, 3) := by decide +kernel
theorem dX4_passHour_15 : decode cX4_passHour 15 = .ok (.istore_n 2, 1) := by decide +kernel
theorem dX4_passHour_16 : decode cX4_passHour 16 = .ok (.aload_n 0, 1) := by decide +kernel
theorem dX4_passHour_17 : decode cX4_passHour 17 = .ok (.iload_n 1, 1) := by decide +kernel
theorem dX4_passHour_18 : decode cX4_passHour 18 = .ok (.putfield 47, 3) := by decide +kernel
theorem dX4_passHour_21 : decode cX4_passHour 21 = .ok (.goto 9, 3) := by decide +kernel
theorem dX4_passHour_24 : decode cX4_passHour 24 = .ok (.aload_n 0, 1) := by decide +kernel
theorem dX4_passHour_25 : decode cX4_passHour 25 = .ok (.bipush 9, 2) := by decide +kernel
theorem dX4_passHour_27 : decode cX4_passHour 27 = .ok (.putfield 47, 3) := by decide +kernel
theorem dX4_passHour_30 : decode cX4_passHour 30 = .ok (.aload_n 0, 1) := by decide +kernel
theorem dX4_passHour_31 : decode cX4_passHour 31 = .ok (.invokevirtual 87, 3) := by decide +kernel
theorem dX4_passHour_34 : decode cX4_passHour 34 = .ok (.iload_n 2, 1) := by decide +kernel
theorem dX4_passHour_35 : decode cX4_passHour 35 = .ok (.ireturn, 1) := by decide +kernel
theorem dX4_drawBy_0 : decode cX4_drawBy 0 = .ok (.aload_n 0, 1) := by decide +kernel
theorem dX4_drawBy_1 : decode cX4_drawBy 1 = .ok (.getfield 12, 3) := by decide +kernel
theorem dX4_drawBy_4 : decode cX4_drawBy 4 = .ok (.aload_n 0, 1) := by decide +kernel
theorem dX4_drawBy_5 : decode cX4_drawBy 5 = .ok (.getfield 47, 3) := by decide +kernel
theorem dX4_drawBy_8 : decode cX4_drawBy 8 = .ok (.iload_n 1, 1) := by decide +kernel
theorem dX4_drawBy_9 : decode cX4_drawBy 9 = .ok (.aload_n 0, 1) := by decide +kernel
theorem dX4_drawBy_10 : decode cX4_drawBy 10 = .ok (.getfield 29, 3) := by decide +kernel
theorem dX4_drawBy_13 : decode cX4_drawBy 13 = .ok (.aload_n 0, 1) := by decide +kernel
theorem dX4_drawBy_14 : decode cX4_drawBy 14 = .ok (.getfield 32, 3) := by decide +kernel
theorem dX4_drawBy_17 : decode cX4_drawBy 17 = .ok (.invokevirtual 90, 3) := by decide +kernel
theorem dX4_drawBy_20 : decode cX4_drawBy 20 = .ok (.istore_n 2, 1) := by decide +kernel
theorem dX4_drawBy_21 : decode cX4_drawBy 21 = .ok (.aload_n 0, 1) := by decide +kernel
theorem dX4_drawBy_22 : decode cX4_drawBy 22 = .ok (.getfield 12, 3) := by decide +kernel
theorem dX4_drawBy_25 : decode cX4_drawBy 25 = .ok (.iload_n 1, 1) := by decide +kernel
theorem dX4_drawBy_26 : decode cX4_drawBy 26 = .ok (.aload_n 0, 1) := by decide +kernel
theorem dX4_drawBy_27 : decode cX4_drawBy 27 = .ok (.getfield 29, 3) := by decide +kernel
theorem dX4_drawBy_30 : decode cX4_drawBy 30 = .ok (.invokevirtual 76, 3) := by decide +kernel
theorem dX4_drawBy_33 : decode cX4_drawBy 33 = .ok (.ifCond .eq 16, 3) := by decide +kernel
theorem dX4_drawBy_36 : decode cX4_drawBy 36 = .ok (.aload_n 0, 1) := by decide +kernel
theorem dX4_drawBy_37 : decode cX4_drawBy 37 = .ok (.dup, 1) := by decide +kernel
theorem dX4_drawBy_38 : decode cX4_drawBy 38 = .ok (.getfield 38, 3) := by decide +kernel
theorem dX4_drawBy_41 : decode cX4_drawBy 41 = .ok (.iload_n 2, 1) := by decide +kernel
theorem dX4_drawBy_42 : decode cX4_drawBy 42 = .ok (.iadd, 1) := by decide +kernel
theorem dX4_drawBy_43 : decode cX4_drawBy 43 = .ok (.putfield 38, 3) := by decide +kernel
theorem dX4_drawBy_46 : decode cX4_drawBy 46 = .ok (.goto 13, 3) := by decide +kernel
theorem dX4_drawBy_49 : decode cX4_drawBy 49 = .ok (.aload_n 0, 1) := by decide +kernel
theorem dX4_drawBy_50 : decode cX4_drawBy 50 = .ok (.dup, 1) := by decide +kernel
theorem dX4_drawBy_51 : decode cX4_drawBy 51 = .ok (.getfield 41, 3) := by decide +kernel
theorem dX4_drawBy_54 : decode cX4_drawBy 54 = .ok (.iload_n 2, 1) := by decide +kernel
theorem dX4_drawBy_55 : decode cX4_drawBy 55 = .ok (.iadd, 1) := by decide +kernel
theorem dX4_drawBy_56 : decode cX4_drawBy 56 = .ok (.putfield 41, 3) := by decide +kernel
theorem dX4_drawBy_59 : decode cX4_drawBy 59 = .ok (.aload_n 0, 1) := by decide +kernel
theorem dX4_drawBy_60 : decode cX4_drawBy 60 = .ok (.dup, 1) := by decide +kernel
theorem dX4_drawBy_61 : decode cX4_drawBy 61 = .ok (.getfield 32, 3) := by decide +kernel
theorem dX4_drawBy_64 : decode cX4_drawBy 64 = .ok (.iload_n 2, 1) := by decide +kernel
theorem dX4_drawBy_65 : decode cX4_drawBy 65 = .ok (.isub, 1) := by decide +kernel
theorem dX4_drawBy_66 : decode cX4_drawBy 66 = .ok (.putfield 32, 3) := by decide +kernel
theorem dX4_drawBy_69 : decode cX4_drawBy 69 = .ok (.aload_n 0, 1) := by decide +kernel
theorem dX4_drawBy_70 : decode cX4_drawBy 70 = .ok (.aload_n 0, 1) := by decide +kernel
theorem dX4_drawBy_71 : decode cX4_drawBy 71 = .ok (.getfield 12, 3) := by decide +kernel
theorem dX4_drawBy_74 : decode cX4_drawBy 74 = .ok (.iload_n 1, 1) := by decide +kernel
theorem dX4_drawBy_75 : decode cX4_drawBy 75 = .ok (.aload_n 0, 1) := by decide +kernel
theorem dX4_drawBy_76 : decode cX4_drawBy 76 = .ok (.getfield 29, 3) := by decide +kernel
theorem dX4_drawBy_79 : decode cX4_drawBy 79 = .ok (.invokevirtual 94, 3) := by decide +kernel
theorem dX4_drawBy_82 : decode cX4_drawBy 82 = .ok (.putfield 29, 3) := by decide +kernel
theorem dX4_drawBy_85 : decode cX4_drawBy 85 = .ok (.aload_n 0, 1) := by decide +kernel
theorem dX4_drawBy_86 : decode cX4_drawBy 86 = .ok (.getfield 18, 3) := by decide +kernel
theorem dX4_drawBy_89 : decode cX4_drawBy 89 = .ok (.iload_n 1, 1) := by decide +kernel
theorem dX4_drawBy_90 : decode cX4_drawBy 90 = .ok (.aload_n 0, 1) := by decide +kernel
theorem dX4_drawBy_91 : decode cX4_drawBy 91 = .ok (.getfield 12, 3) := by decide +kernel
theorem dX4_drawBy_94 : decode cX4_drawBy 94 = .ok (.getfield 97, 3) := by decide +kernel
theorem dX4_drawBy_97 : decode cX4_drawBy 97 = .ok (.iload_n 1, 1) := by decide +kernel
theorem dX4_drawBy_98 : decode cX4_drawBy 98 = .ok (.iaload, 1) := by decide +kernel
theorem dX4_drawBy_99 : decode cX4_drawBy 99 = .ok (.iastore, 1) := by decide +kernel
theorem dX4_drawBy_100 : decode cX4_drawBy 100 = .ok (.iload_n 2, 1) := by decide +kernel
theorem dX4_drawBy_101 : decode cX4_drawBy 101 = .ok (.ireturn, 1) := by decide +kernel
theorem dX4_endHour_0 : decode cX4_endHour 0 = .ok (.aload_n 0, 1) := by decide +kernel
theorem dX4_endHour_1 : decode cX4_endHour 1 = .ok (.aload_n 0, 1) := by decide +kernel
theorem dX4_endHour_2 : decode cX4_endHour 2 = .ok (.getfield 29, 3) := by decide +kernel
theorem dX4_endHour_5 : decode cX4_endHour 5 = .ok (.invokestatic 100, 3) := by decide +kernel
theorem dX4_endHour_8 : decode cX4_endHour 8 = .ok (.putfield 29, 3) := by decide +kernel
theorem dX4_endHour_11 : decode cX4_endHour 11 = .ok (.aload_n 0, 1) := by decide +kernel
theorem dX4_endHour_12 : decode cX4_endHour 12 = .ok (.aload_n 0, 1) := by decide +kernel
theorem dX4_endHour_13 : decode cX4_endHour 13 = .ok (.getfield 32, 3) := by decide +kernel
theorem dX4_endHour_16 : decode cX4_endHour 16 = .ok (.aload_n 0, 1) := by decide +kernel
theorem dX4_endHour_17 : decode cX4_endHour 17 = .ok (.getfield 35, 3) := by decide +kernel
theorem dX4_endHour_20 : decode cX4_endHour 20 = .ok (.invokestatic 103, 3) := by decide +kernel
theorem dX4_endHour_23 : decode cX4_endHour 23 = .ok (.putfield 32, 3) := by decide +kernel
theorem dX4_endHour_26 : decode cX4_endHour 26 = .ok (.aload_n 0, 1) := by decide +kernel
theorem dX4_endHour_27 : decode cX4_endHour 27 = .ok (.dup, 1) := by decide +kernel
theorem dX4_endHour_28 : decode cX4_endHour 28 = .ok (.getfield 44, 3) := by decide +kernel
theorem dX4_endHour_31 : decode cX4_endHour 31 = .ok (.iconst 1, 1) := by decide +kernel
theorem dX4_endHour_32 : decode cX4_endHour 32 = .ok (.iadd, 1) := by decide +kernel
theorem dX4_endHour_33 : decode cX4_endHour 33 = .ok (.putfield 44, 3) := by decide +kernel
theorem dX4_endHour_36 : decode cX4_endHour 36 = .ok (.iconst 0, 1) := by decide +kernel
theorem dX4_endHour_37 : decode cX4_endHour 37 = .ok (.istore_n 1, 1) := by decide +kernel
theorem dX4_endHour_38 : decode cX4_endHour 38 = .ok (.iload_n 1, 1) := by decide +kernel
theorem dX4_endHour_39 : decode cX4_endHour 39 = .ok (.aload_n 0, 1) := by decide +kernel
theorem dX4_endHour_40 : decode cX4_endHour 40 = .ok (.getfield 12, 3) := by decide +kernel
theorem dX4_endHour_43 : decode cX4_endHour 43 = .ok (.getfield 106, 3) := by decide +kernel
theorem dX4_endHour_46 : decode cX4_endHour 46 = .ok (.if_icmp .ge 27, 3) := by decide +kernel
theorem dX4_endHour_49 : decode cX4_endHour 49 = .ok (.aload_n 0, 1) := by decide +kernel
theorem dX4_endHour_50 : decode cX4_endHour 50 = .ok (.getfield 18, 3) := by decide +kernel
theorem dX4_endHour_53 : decode cX4_endHour 53 = .ok (.iload_n 1, 1) := by decide +kernel
theorem dX4_endHour_54 : decode cX4_endHour 54 = .ok (.iconst 0, 1) := by decide +kernel
theorem dX4_endHour_55 : decode cX4_endHour 55 = .ok (.aload_n 0, 1) := by decide +kernel
theorem dX4_endHour_56 : decode cX4_endHour 56 = .ok (.getfield 18, 3) := by decide +kernel
theorem dX4_endHour_59 : decode cX4_endHour 59 = .ok (.iload_n 1, 1) := by decide +kernel
theorem dX4_endHour_60 : decode cX4_endHour 60 = .ok (.iaload, 1) := by decide +kernel
theorem dX4_endHour_61 : decode cX4_endHour 61 = .ok (.iconst 1, 1) := by decide +kernel
theorem dX4_endHour_62 : decode cX4_endHour 62 = .ok (.isub, 1) := by decide +kernel
theorem dX4_endHour_63 : decode cX4_endHour 63 = .ok (.invokestatic 109, 3) := by decide +kernel
theorem dX4_endHour_66 : decode cX4_endHour 66 = .ok (.iastore, 1) := by decide +kernel
theorem dX4_endHour_67 : decode cX4_endHour 67 = .ok (.iinc 1 1, 3) := by decide +kernel
theorem dX4_endHour_70 : decode cX4_endHour 70 = .ok (.goto (-32), 3) := by decide +kernel
theorem dX4_endHour_73 : decode cX4_endHour 73 = .ok (.return_, 1) := by decide +kernel
theorem dX4_followPlan_0 : decode cX4_followPlan 0 = .ok (.iconst 0, 1) := by decide +kernel
theorem dX4_followPlan_1 : decode cX4_followPlan 1 = .ok (.istore_n 1, 1) := by decide +kernel
theorem dX4_followPlan_2 : decode cX4_followPlan 2 = .ok (.iload_n 1, 1) := by decide +kernel
theorem dX4_followPlan_3 : decode cX4_followPlan 3 = .ok (.aload_n 0, 1) := by decide +kernel
theorem dX4_followPlan_4 : decode cX4_followPlan 4 = .ok (.getfield 25, 3) := by decide +kernel
theorem dX4_followPlan_7 : decode cX4_followPlan 7 = .ok (.if_icmp .ge 46, 3) := by decide +kernel
theorem dX4_followPlan_10 : decode cX4_followPlan 10 = .ok (.aload_n 0, 1) := by decide +kernel
theorem dX4_followPlan_11 : decode cX4_followPlan 11 = .ok (.getfield 22, 3) := by decide +kernel
theorem dX4_followPlan_14 : decode cX4_followPlan 14 = .ok (.iload_n 1, 1) := by decide +kernel
theorem dX4_followPlan_15 : decode cX4_followPlan 15 = .ok (.iaload, 1) := by decide +kernel
theorem dX4_followPlan_16 : decode cX4_followPlan 16 = .ok (.bipush 9, 2) := by decide +kernel
theorem dX4_followPlan_18 : decode cX4_followPlan 18 = .ok (.if_icmp .eq 18, 3) := by decide +kernel
theorem dX4_followPlan_21 : decode cX4_followPlan 21 = .ok (.aload_n 0, 1) := by decide +kernel
theorem dX4_followPlan_22 : decode cX4_followPlan 22 = .ok (.aload_n 0, 1) := by decide +kernel
theorem dX4_followPlan_23 : decode cX4_followPlan 23 = .ok (.getfield 22, 3) := by decide +kernel
theorem dX4_followPlan_26 : decode cX4_followPlan 26 = .ok (.iload_n 1, 1) := by decide +kernel
theorem dX4_followPlan_27 : decode cX4_followPlan 27 = .ok (.iaload, 1) := by decide +kernel
theorem dX4_followPlan_28 : decode cX4_followPlan 28 = .ok (.invokevirtual 80, 3) := by decide +kernel
theorem dX4_followPlan_31 : decode cX4_followPlan 31 = .ok (.ifCond .ne 5, 3) := by decide +kernel
theorem dX4_followPlan_34 : decode cX4_followPlan 34 = .ok (.iload_n 1, 1) := by decide +kernel
theorem dX4_followPlan_35 : decode cX4_followPlan 35 = .ok (.ireturn, 1) := by decide +kernel
theorem dX4_followPlan_36 : decode cX4_followPlan 36 = .ok (.aload_n 0, 1) := by decide +kernel
theorem dX4_followPlan_37 : decode cX4_followPlan 37 = .ok (.aload_n 0, 1) := by decide +kernel
theorem dX4_followPlan_38 : decode cX4_followPlan 38 = .ok (.getfield 22, 3) := by decide +kernel
theorem dX4_followPlan_41 : decode cX4_followPlan 41 = .ok (.iload_n 1, 1) := by decide +kernel
theorem dX4_followPlan_42 : decode cX4_followPlan 42 = .ok (.iaload, 1) := by decide +kernel
theorem dX4_followPlan_43 : decode cX4_followPlan 43 = .ok (.invokevirtual 112, 3) := by decide +kernel
theorem dX4_followPlan_46 : decode cX4_followPlan 46 = .ok (.pop, 1) := by decide +kernel
theorem dX4_followPlan_47 : decode cX4_followPlan 47 = .ok (.iinc 1 1, 3) := by decide +kernel
theorem dX4_followPlan_50 : decode cX4_followPlan 50 = .ok (.goto (-48), 3) := by decide +kernel
theorem dX4_followPlan_53 : decode cX4_followPlan 53 = .ok (.aload_n 0, 1) := by decide +kernel
theorem dX4_followPlan_54 : decode cX4_followPlan 54 = .ok (.getfield 25, 3) := by decide +kernel
theorem dX4_followPlan_57 : decode cX4_followPlan 57 = .ok (.ireturn, 1) := by decide +kernel
theorem dX4_lot_0 : decode cX4_lot 0 = .ok (.aload_n 0, 1) := by decide +kernel
theorem dX4_lot_1 : decode cX4_lot 1 = .ok (.aload_n 0, 1) := by decide +kernel
theorem dX4_lot_2 : decode cX4_lot 2 = .ok (.getfield 50, 3) := by decide +kernel
theorem dX4_lot_5 : decode cX4_lot 5 = .ok (.i2l, 1) := by decide +kernel
theorem dX4_lot_6 : decode cX4_lot 6 = .ok (.ldc2_w 115, 3) := by decide +kernel
theorem dX4_lot_9 : decode cX4_lot 9 = .ok (.lmul, 1) := by decide +kernel
theorem dX4_lot_10 : decode cX4_lot 10 = .ok (.ldc2_w 117, 3) := by decide +kernel
theorem dX4_lot_13 : decode cX4_lot 13 = .ok (.ladd, 1) := by decide +kernel
theorem dX4_lot_14 : decode cX4_lot 14 = .ok (.ldc2_w 119, 3) := by decide +kernel
theorem dX4_lot_17 : decode cX4_lot 17 = .ok (.land, 1) := by decide +kernel
theorem dX4_lot_18 : decode cX4_lot 18 = .ok (.l2i, 1) := by decide +kernel
theorem dX4_lot_19 : decode cX4_lot 19 = .ok (.putfield 50, 3) := by decide +kernel
theorem dX4_lot_22 : decode cX4_lot 22 = .ok (.aload_n 0, 1) := by decide +kernel
theorem dX4_lot_23 : decode cX4_lot 23 = .ok (.getfield 50, 3) := by decide +kernel
theorem dX4_lot_26 : decode cX4_lot 26 = .ok (.ldc 121, 2) := by decide +kernel
theorem dX4_lot_28 : decode cX4_lot 28 = .ok (.idiv, 1) := by decide +kernel
theorem dX4_lot_29 : decode cX4_lot 29 = .ok (.aload_n 0, 1) := by decide +kernel
theorem dX4_lot_30 : decode cX4_lot 30 = .ok (.getfield 12, 3) := by decide +kernel
theorem dX4_lot_33 : decode cX4_lot 33 = .ok (.getfield 106, 3) := by decide +kernel
theorem dX4_lot_36 : decode cX4_lot 36 = .ok (.iconst 1, 1) := by decide +kernel
theorem dX4_lot_37 : decode cX4_lot 37 = .ok (.iadd, 1) := by decide +kernel
theorem dX4_lot_38 : decode cX4_lot 38 = .ok (.irem, 1) := by decide +kernel
theorem dX4_lot_39 : decode cX4_lot 39 = .ok (.istore_n 1, 1) := by decide +kernel
theorem dX4_lot_40 : decode cX4_lot 40 = .ok (.aload_n 0, 1) := by decide +kernel
theorem dX4_lot_41 : decode cX4_lot 41 = .ok (.iload_n 1, 1) := by decide +kernel
theorem dX4_lot_42 : decode cX4_lot 42 = .ok (.invokevirtual 80, 3) := by decide +kernel
theorem dX4_lot_45 : decode cX4_lot 45 = .ok (.ifCond .eq 7, 3) := by decide +kernel
theorem dX4_lot_48 : decode cX4_lot 48 = .ok (.iload_n 1, 1) := by decide +kernel
theorem dX4_lot_49 : decode cX4_lot 49 = .ok (.goto 5, 3) := by decide +kernel
theorem dX4_lot_52 : decode cX4_lot 52 = .ok (.bipush 9, 2) := by decide +kernel
theorem dX4_lot_54 : decode cX4_lot 54 = .ok (.ireturn, 1) := by decide +kernel
theorem dX5_init_0 : decode cX5_init 0 = .ok (.aload_n 0, 1) := by decide +kernel
theorem dX5_init_1 : decode cX5_init 1 = .ok (.invokespecial 3, 3) := by decide +kernel
theorem dX5_init_4 : decode cX5_init 4 = .ok (.aload_n 0, 1) := by decide +kernel
theorem dX5_init_5 : decode cX5_init 5 = .ok (.new 9, 3) := by decide +kernel
theorem dX5_init_8 : decode cX5_init 8 = .ok (.dup, 1) := by decide +kernel
theorem dX5_init_9 : decode cX5_init 9 = .ok (.invokespecial 11, 3) := by decide +kernel
theorem dX5_init_12 : decode cX5_init 12 = .ok (.putfield 12, 3) := by decide +kernel
theorem dX5_init_15 : decode cX5_init 15 = .ok (.aload_n 0, 1) := by decide +kernel
theorem dX5_init_16 : decode cX5_init 16 = .ok (.new 9, 3) := by decide +kernel
theorem dX5_init_19 : decode cX5_init 19 = .ok (.dup, 1) := by decide +kernel
theorem dX5_init_20 : decode cX5_init 20 = .ok (.invokespecial 11, 3) := by decide +kernel
theorem dX5_init_23 : decode cX5_init 23 = .ok (.putfield 16, 3) := by decide +kernel
theorem dX5_init_26 : decode cX5_init 26 = .ok (.aload_n 0, 1) := by decide +kernel
theorem dX5_init_27 : decode cX5_init 27 = .ok (.iconst 0, 1) := by decide +kernel
theorem dX5_init_28 : decode cX5_init 28 = .ok (.putfield 19, 3) := by decide +kernel
theorem dX5_init_31 : decode cX5_init 31 = .ok (.aload_n 0, 1) := by decide +kernel
theorem dX5_init_32 : decode cX5_init 32 = .ok (.new 23, 3) := by decide +kernel
theorem dX5_init_35 : decode cX5_init 35 = .ok (.dup, 1) := by decide +kernel
theorem dX5_init_36 : decode cX5_init 36 = .ok (.invokespecial 25, 3) := by decide +kernel
theorem dX5_init_39 : decode cX5_init 39 = .ok (.putfield 26, 3) := by decide +kernel
theorem dX5_init_42 : decode cX5_init 42 = .ok (.aload_n 0, 1) := by decide +kernel
theorem dX5_init_43 : decode cX5_init 43 = .ok (.new 30, 3) := by decide +kernel
theorem dX5_init_46 : decode cX5_init 46 = .ok (.dup, 1) := by decide +kernel
theorem dX5_init_47 : decode cX5_init 47 = .ok (.invokespecial 32, 3) := by decide +kernel
theorem dX5_init_50 : decode cX5_init 50 = .ok (.putfield 33, 3) := by decide +kernel
theorem dX5_init_53 : decode cX5_init 53 = .ok (.aload_n 0, 1) := by decide +kernel
theorem dX5_init_54 : decode cX5_init 54 = .ok (.bipush 24, 2) := by decide +kernel
theorem dX5_init_56 : decode cX5_init 56 = .ok (.newarray .int, 2) := by decide +kernel
theorem dX5_init_58 : decode cX5_init 58 = .ok (.putfield 37, 3) := by decide +kernel
theorem dX5_init_61 : decode cX5_init 61 = .ok (.aload_n 0, 1) := by decide +kernel
theorem dX5_init_62 : decode cX5_init 62 = .ok (.new 41, 3) := by decide +kernel
theorem dX5_init_65 : decode cX5_init 65 = .ok (.dup, 1) := by decide +kernel
theorem dX5_init_66 : decode cX5_init 66 = .ok (.invokespecial 43, 3) := by decide +kernel
theorem dX5_init_69 : decode cX5_init 69 = .ok (.putfield 44, 3) := by decide +kernel
theorem dX5_init_72 : decode cX5_init 72 = .ok (.aload_n 0, 1) := by decide +kernel
theorem dX5_init_73 : decode cX5_init 73 = .ok (.iconst 4, 1) := by decide +kernel
theorem dX5_init_74 : decode cX5_init 74 = .ok (.anewarray 48, 3) := by decide +kernel
theorem dX5_init_77 : decode cX5_init 77 = .ok (.putfield 50, 3) := by decide +kernel
theorem dX5_init_80 : decode cX5_init 80 = .ok (.iconst 0, 1) := by decide +kernel
theorem dX5_init_81 : decode cX5_init 81 = .ok (.istore_n 1, 1) := by decide +kernel
theorem dX5_init_82 : decode cX5_init 82 = .ok (.iload_n 1, 1) := by decide +kernel
theorem dX5_init_83 : decode cX5_init 83 = .ok (.iconst 4, 1) := by decide +kernel
theorem dX5_init_84 : decode cX5_init 84 = .ok (.if_icmp .ge 22, 3) := by decide +kernel
theorem dX5_init_87 : decode cX5_init 87 = .ok (.aload_n 0, 1) := by decide +kernel
theorem dX5_init_88 : decode cX5_init 88 = .ok (.getfield 50, 3) := by decide +kernel
theorem dX5_init_91 : decode cX5_init 91 = .ok (.iload_n 1, 1) := by decide +kernel
theorem dX5_init_92 : decode cX5_init 92 = .ok (.new 48, 3) := by decide +kernel
theorem dX5_init_95 : decode cX5_init 95 = .ok (.dup, 1) := by decide +kernel
theorem dX5_init_96 : decode cX5_init 96 = .ok (.invokespecial 54, 3) := by decide +kernel
theorem dX5_init_99 : decode cX5_init 99 = .ok (.aastore, 1) := by decide +kernel
theorem dX5_init_100 : decode cX5_init 100 = .ok (.iinc 1 1, 3) := by decide +kernel
theorem dX5_init_103 : decode cX5_init 103 = .ok (.goto (-21), 3) := by decide +kernel
theorem dX5_init_106 : decode cX5_init 106 = .ok (.return_, 1) := by decide +kernel
theorem dX5_folk_0 : decode cX5_folk 0 = .ok (.iload_n 1, 1) := by decide +kernel
theorem dX5_folk_1 : decode cX5_folk 1 = .ok (.iconst 0, 1) := by decide +kernel
theorem dX5_folk_2 : decode cX5_folk 2 = .ok (.iconst 3, 1) := by decide +kernel
theorem dX5_folk_3 : decode cX5_folk 3 = .ok (.invokestatic 55, 3) := by decide +kernel
theorem dX5_folk_6 : decode cX5_folk 6 = .ok (.ifCond .eq 23, 3) := by decide +kernel
theorem dX5_folk_9 : decode cX5_folk 9 = .ok (.iload_n 2, 1) := by decide +kernel
theorem dX5_folk_10 : decode cX5_folk 10 = .ok (.bipush (-3), 2) := by decide +kernel
theorem dX5_folk_12 : decode cX5_folk 12 = .ok (.iconst 3, 1) := by decide +kernel
theorem dX5_folk_13 : decode cX5_folk 13 = .ok (.invokestatic 55, 3) := by decide +kernel
theorem dX5_folk_16 : decode cX5_folk 16 = .ok (.ifCond .eq 13, 3) := by decide +kernel
theorem dX5_folk_19 : decode cX5_folk 19 = .ok (.iload_n 3, 1) := by decide +kernel
theorem dX5_folk_20 : decode cX5_folk 20 = .ok (.iconst 1, 1) := by decide +kernel
theorem dX5_folk_21 : decode cX5_folk 21 = .ok (.bipush 9, 2) := by decide +kernel
theorem dX5_folk_23 : decode cX5_folk 23 = .ok (.invokestatic 55, 3) := by decide +kernel
theorem dX5_folk_26 : decode cX5_folk 26 = .ok (.ifCond .ne 5, 3) := by decide +kernel
theorem dX5_folk_29 : decode cX5_folk 29 = .ok (.iconst (-1), 1) := by decide +kernel
theorem dX5_folk_30 : decode cX5_folk 30 = .ok (.ireturn, 1) := by decide +kernel
theorem dX5_folk_31 : decode cX5_folk 31 = .ok (.aload_n 0, 1) := by decide +kernel
theorem dX5_folk_32 : decode cX5_folk 32 = .ok (.getfield 12, 3) := by decide +kernel
theorem dX5_folk_35 : decode cX5_folk 35 = .ok (.getfield 59, 3) := by decide +kernel
theorem dX5_folk_38 : decode cX5_folk 38 = .ok (.getfield 62, 3) := by decide +kernel
theorem dX5_folk_41 : decode cX5_folk 41 = .ok (.bipush 6, 2) := by decide +kernel
theorem dX5_folk_43 : decode cX5_folk 43 = .ok (.if_icmp .lt 6, 3) := by decide +kernel
theorem dX5_folk_46 : decode cX5_folk 46 = .ok (.bipush (-3), 2) := by decide +kernel
theorem dX5_folk_48 : decode cX5_folk 48 = .ok (.ireturn, 1) := by decide +kernel
theorem dX5_folk_49 : decode cX5_folk 49 = .ok (.aload_n 0, 1) := by decide +kernel
theorem dX5_folk_50 : decode cX5_folk 50 = .ok (.getfield 12, 3) := by decide +kernel
theorem dX5_folk_53 : decode cX5_folk 53 = .ok (.getfield 59, 3) := by decide +kernel
theorem dX5_folk_56 : decode cX5_folk 56 = .ok (.iload_n 1, 1) := by decide +kernel
theorem dX5_folk_57 : decode cX5_folk 57 = .ok (.iload_n 2, 1) := by decide +kernel
theorem dX5_folk_58 : decode cX5_folk 58 = .ok (.iload_n 3, 1) := by decide +kernel
theorem dX5_folk_59 : decode cX5_folk 59 = .ok (.invokevirtual 66, 3) := by decide +kernel
theorem dX5_folk_62 : decode cX5_folk 62 = .ok (.ireturn, 1) := by decide +kernel
theorem dX5_told_0 : decode cX5_told 0 = .ok (.aload_n 0, 1) := by decide +kernel
theorem dX5_told_1 : decode cX5_told 1 = .ok (.getfield 12, 3) := by decide +kernel
theorem dX5_told_4 : decode cX5_told 4 = .ok (.getfield 59, 3) := by decide +kernel
theorem dX5_told_7 : decode cX5_told 7 = .ok (.iload_n 1, 1) := by decide +kernel
theorem dX5_told_8 : decode cX5_told 8 = .ok (.invokevirtual 70, 3) := by decide +kernel
theorem dX5_told_11 : decode cX5_told 11 = .ok (.ifCond .ne 6, 3) := by decide +kernel
theorem dX5_told_14 : decode cX5_told 14 = .ok (.ldc 74, 2) := by decide +kernel
theorem dX5_told_16 : decode cX5_told 16 = .ok (.ireturn, 1) := by decide +kernel
theorem dX5_told_17 : decode cX5_told 17 = .ok (.iload_n 2, 1) := by decide +kernel
theorem dX5_told_18 : decode cX5_told 18 = .ok (.tableswitch 96 0 4 #[34, 47, 60, 73, 83], 34) := by decide +kernel
theorem dX5_told_52 : decode cX5_told 52 = .ok (.aload_n 0, 1) := by decide +kernel
theorem dX5_told_53 : decode cX5_told 53 = .ok (.getfield 12, 3) := by decide +kernel
theorem dX5_told_56 : decode cX5_told 56 = .ok (.getfield 59, 3) := by decide +kernel
theorem dX5_told_59 : decode cX5_told 59 = .ok (.getfield 75, 3) := by decide +kernel
theorem dX5_told_62 : decode cX5_told 62 = .ok (.iload_n 1, 1) := by decide +kernel
theorem dX5_told_63 : decode cX5_told 63 = .ok (.iaload, 1) := by decide +kernel
theorem dX5_told_64 : decode cX5_told 64 = .ok (.ireturn, 1) := by decide +kernel
theorem dX5_told_65 : decode cX5_told 65 = .ok (.aload_n 0, 1) := by decide +kernel
theorem dX5_told_66 : decode cX5_told 66 = .ok (.getfield 12, 3) := by decide +kernel
theorem dX5_told_69 : decode cX5_told 69 = .ok (.getfield 59, 3) := by decide +kernel
theorem dX5_told_72 : decode cX5_told 72 = .ok (.getfield 78, 3) := by decide +kernel
theorem dX5_told_75 : decode cX5_told 75 = .ok (.iload_n 1, 1) := by decide +kernel
theorem dX5_told_76 : decode cX5_told 76 = .ok (.iaload, 1) := by decide +kernel
theorem dX5_told_77 : decode cX5_told 77 = .ok (.ireturn, 1) := by decide +kernel
theorem dX5_told_78 : decode cX5_told 78 = .ok (.aload_n 0, 1) := by decide +kernel
theorem dX5_told_79 : decode cX5_told 79 = .ok (.getfield 12, 3) := by decide +kernel
theorem dX5_told_82 : decode cX5_told 82 = .ok (.getfield 59, 3) := by decide +kernel
theorem dX5_told_85 : decode cX5_told 85 = .ok (.getfield 81, 3) := by decide +kernel
theorem dX5_told_88 : decode cX5_told 88 = .ok (.iload_n 1, 1) := by decide +kernel
theorem dX5_told_89 : decode cX5_told 89 = .ok (.iaload, 1) := by decide +kernel
theorem dX5_told_90 : decode cX5_told 90 = .ok (.ireturn, 1) := by decide +kernel
theorem dX5_told_91 : decode cX5_told 91 = .ok (.aload_n 0, 1) := by decide +kernel
theorem dX5_told_92 : decode cX5_told 92 = .ok (.getfield 12, 3) := by decide +kernel
theorem dX5_told_95 : decode cX5_told 95 = .ok (.getfield 84, 3) := by decide +kernel
theorem dX5_told_98 : decode cX5_told 98 = .ok (.iload_n 1, 1) := by decide +kernel
theorem dX5_told_99 : decode cX5_told 99 = .ok (.iaload, 1) := by decide +kernel
theorem dX5_told_100 : decode cX5_told 100 = .ok (.ireturn, 1) := by decide +kernel
theorem dX5_told_101 : decode cX5_told 101 = .ok (.aload_n 0, 1) := by decide +kernel
theorem dX5_told_102 : decode cX5_told 102 = .ok (.getfield 12, 3) := by decide +kernel
theorem dX5_told_105 : decode cX5_told 105 = .ok (.getfield 59, 3) := by decide +kernel
theorem dX5_told_108 : decode cX5_told 108 = .ok (.getfield 87, 3) := by decide +kernel
theorem dX5_told_111 : decode cX5_told 111 = .ok (.iload_n 1, 1) := by decide +kernel
theorem dX5_told_112 : decode cX5_told 112 = .ok (.iaload, 1) := by decide +kernel
theorem dX5_told_113 : decode cX5_told 113 = .ok (.ireturn, 1) := by decide +kernel
theorem dX5_told_114 : decode cX5_told 114 = .ok (.ldc 74, 2) := by decide +kernel
theorem dX5_told_116 : decode cX5_told 116 = .ok (.ireturn, 1) := by decide +kernel
theorem dX5_quarrel_0 : decode cX5_quarrel 0 = .ok (.aload_n 0, 1) := by decide +kernel
theorem dX5_quarrel_1 : decode cX5_quarrel 1 = .ok (.getfield 12, 3) := by decide +kernel
theorem dX5_quarrel_4 : decode cX5_quarrel 4 = .ok (.getfield 59, 3) := by decide +kernel
theorem dX5_quarrel_7 : decode cX5_quarrel 7 = .ok (.iload_n 1, 1) := by decide +kernel
theorem dX5_quarrel_8 : decode cX5_quarrel 8 = .ok (.invokevirtual 70, 3) := by decide +kernel
theorem dX5_quarrel_11 : decode cX5_quarrel 11 = .ok (.ifCond .eq 22, 3) := by decide +kernel
theorem dX5_quarrel_14 : decode cX5_quarrel 14 = .ok (.aload_n 0, 1) := by decide +kernel
theorem dX5_quarrel_15 : decode cX5_quarrel 15 = .ok (.getfield 12, 3) := by decide +kernel
theorem dX5_quarrel_18 : decode cX5_quarrel 18 = .ok (.getfield 59, 3) := by decide +kernel
theorem dX5_quarrel_21 : decode cX5_quarrel 21 = .ok (.iload_n 2, 1) := by decide +kernel
theorem dX5_quarrel_22 : decode cX5_quarrel 22 = .ok (.invokevirtual 70, 3) := by decide +kernel
theorem dX5_quarrel_25 : decode cX5_quarrel 25 = .ok (.ifCond .eq 8, 3) := by decide +kernel
theorem dX5_quarrel_28 : decode cX5_quarrel 28 = .ok (.iload_n 1, 1) := by decide +kernel
theorem dX5_quarrel_29 : decode cX5_quarrel 29 = .ok (.iload_n 2, 1) := by decide +kernel
theorem dX5_quarrel_30 : decode cX5_quarrel 30 = .ok (.if_icmp .ne 5, 3) := by decide +kernel
theorem dX5_quarrel_33 : decode cX5_quarrel 33 = .ok (.iconst (-1), 1) := by decide +kernel
theorem dX5_quarrel_34 : decode cX5_quarrel 34 = .ok (.ireturn, 1) := by decide +kernel
theorem dX5_quarrel_35 : decode cX5_quarrel 35 = .ok (.aload_n 0, 1) := by decide +kernel
theorem dX5_quarrel_36 : decode cX5_quarrel 36 = .ok (.getfield 12, 3) := by decide +kernel
theorem dX5_quarrel_39 : decode cX5_quarrel 39 = .ok (.getfield 59, 3) := by decide +kernel
theorem dX5_quarrel_42 : decode cX5_quarrel 42 = .ok (.iload_n 1, 1) := by decide +kernel
theorem dX5_quarrel_43 : decode cX5_quarrel 43 = .ok (.iload_n 2, 1) := by decide +kernel
theorem dX5_quarrel_44 : decode cX5_quarrel 44 = .ok (.invokevirtual 90, 3) := by decide +kernel
theorem dX5_quarrel_47 : decode cX5_quarrel 47 = .ok (.ifCond .eq 7, 3) := by decide +kernel
theorem dX5_quarrel_50 : decode cX5_quarrel 50 = .ok (.iconst 1, 1) := by decide +kernel
theorem dX5_quarrel_51 : decode cX5_quarrel 51 = .ok (.goto 4, 3) := by decide +kernel
theorem dX5_quarrel_54 : decode cX5_quarrel 54 = .ok (.iconst 0, 1) := by decide +kernel
theorem dX5_quarrel_55 : decode cX5_quarrel 55 = .ok (.istore 4, 2) := by decide +kernel
theorem dX5_quarrel_57 : decode cX5_quarrel 57 = .ok (.aload_n 0, 1) := by decide +kernel
theorem dX5_quarrel_58 : decode cX5_quarrel 58 = .ok (.getfield 12, 3) := by decide +kernel
theorem dX5_quarrel_61 : decode cX5_quarrel 61 = .ok (.getfield 59, 3) := by decide +kernel
theorem dX5_quarrel_64 : decode cX5_quarrel 64 = .ok (.iload_n 1, 1) := by decide +kernel
theorem dX5_quarrel_65 : decode cX5_quarrel 65 = .ok (.iload_n 2, 1) := by decide +kernel
theorem dX5_quarrel_66 : decode cX5_quarrel 66 = .ok (.iload_n 3, 1) := by decide +kernel
theorem dX5_quarrel_67 : decode cX5_quarrel 67 = .ok (.invokevirtual 94, 3) := by decide +kernel
theorem dX5_quarrel_70 : decode cX5_quarrel 70 = .ok (.iload 4, 2) := by decide +kernel
theorem dX5_quarrel_72 : decode cX5_quarrel 72 = .ok (.ireturn, 1) := by decide +kernel
theorem dX5_set_0 : decode cX5_set 0 = .ok (.ldc 74, 2) := by decide +kernel
theorem dX5_set_2 : decode cX5_set 2 = .ok (.istore_n 3, 1) := by decide +kernel
theorem dX5_set_3 : decode cX5_set 3 = .ok (.iload_n 1, 1) := by decide +kernel
theorem dX5_set_4 : decode cX5_set 4 = .ok (.ifCond .ne 29, 3) := by decide +kernel
theorem dX5_set_7 : decode cX5_set 7 = .ok (.iload_n 2, 1) := by decide +kernel
theorem dX5_set_8 : decode cX5_set 8 = .ok (.invokestatic 98, 3) := by decide +kernel
theorem dX5_set_11 : decode cX5_set 11 = .ok (.ifCond .eq 22, 3) := by decide +kernel
theorem dX5_set_14 : decode cX5_set 14 = .ok (.aload_n 0, 1) := by decide +kernel
theorem dX5_set_15 : decode cX5_set 15 = .ok (.getfield 12, 3) := by decide +kernel
theorem dX5_set_18 : decode cX5_set 18 = .ok (.getfield 101, 3) := by decide +kernel
theorem dX5_set_21 : decode cX5_set 21 = .ok (.istore_n 3, 1) := by decide +kernel
theorem dX5_set_22 : decode cX5_set 22 = .ok (.aload_n 0, 1) := by decide +kernel
theorem dX5_set_23 : decode cX5_set 23 = .ok (.getfield 12, 3) := by decide +kernel
theorem dX5_set_26 : decode cX5_set 26 = .ok (.iload_n 2, 1) := by decide +kernel
theorem dX5_set_27 : decode cX5_set 27 = .ok (.putfield 101, 3) := by decide +kernel
theorem dX5_set_30 : decode cX5_set 30 = .ok (.goto 69, 3) := by decide +kernel
theorem dX5_set_33 : decode cX5_set 33 = .ok (.iload_n 1, 1) := by decide +kernel
theorem dX5_set_34 : decode cX5_set 34 = .ok (.iconst 1, 1) := by decide +kernel
theorem dX5_set_35 : decode cX5_set 35 = .ok (.if_icmp .ne 33, 3) := by decide +kernel
theorem dX5_set_38 : decode cX5_set 38 = .ok (.iload_n 2, 1) := by decide +kernel
theorem dX5_set_39 : decode cX5_set 39 = .ok (.iconst 0, 1) := by decide +kernel
theorem dX5_set_40 : decode cX5_set 40 = .ok (.sipush 999, 3) := by decide +kernel
theorem dX5_set_43 : decode cX5_set 43 = .ok (.invokestatic 55, 3) := by decide +kernel
theorem dX5_set_46 : decode cX5_set 46 = .ok (.ifCond .eq 22, 3) := by decide +kernel
theorem dX5_set_49 : decode cX5_set 49 = .ok (.aload_n 0, 1) := by decide +kernel
theorem dX5_set_50 : decode cX5_set 50 = .ok (.getfield 12, 3) := by decide +kernel
theorem dX5_set_53 : decode cX5_set 53 = .ok (.getfield 104, 3) := by decide +kernel
theorem dX5_set_56 : decode cX5_set 56 = .ok (.istore_n 3, 1) := by decide +kernel
theorem dX5_set_57 : decode cX5_set 57 = .ok (.aload_n 0, 1) := by decide +kernel
theorem dX5_set_58 : decode cX5_set 58 = .ok (.getfield 12, 3) := by decide +kernel
theorem dX5_set_61 : decode cX5_set 61 = .ok (.iload_n 2, 1) := by decide +kernel
theorem dX5_set_62 : decode cX5_set 62 = .ok (.putfield 104, 3) := by decide +kernel
theorem dX5_set_65 : decode cX5_set 65 = .ok (.goto 34, 3) := by decide +kernel
theorem dX5_set_68 : decode cX5_set 68 = .ok (.iload_n 1, 1) := by decide +kernel
theorem dX5_set_69 : decode cX5_set 69 = .ok (.iconst 2, 1) := by decide +kernel
theorem dX5_set_70 : decode cX5_set 70 = .ok (.if_icmp .ne 29, 3) := by decide +kernel
theorem dX5_set_73 : decode cX5_set 73 = .ok (.iload_n 2, 1) := by decide +kernel
theorem dX5_set_74 : decode cX5_set 74 = .ok (.iconst 0, 1) := by decide +kernel
theorem dX5_set_75 : decode cX5_set 75 = .ok (.bipush 9, 2) := by decide +kernel
theorem dX5_set_77 : decode cX5_set 77 = .ok (.invokestatic 55, 3) := by decide +kernel
theorem dX5_set_80 : decode cX5_set 80 = .ok (.ifCond .eq 19, 3) := by decide +kernel
theorem dX5_set_83 : decode cX5_set 83 = .ok (.aload_n 0, 1) := by decide +kernel
theorem dX5_set_84 : decode cX5_set 84 = .ok (.getfield 12, 3) := by decide +kernel
theorem dX5_set_87 : decode cX5_set 87 = .ok (.getfield 107, 3) := by decide +kernel
theorem dX5_set_90 : decode cX5_set 90 = .ok (.istore_n 3, 1) := by decide +kernel
theorem dX5_set_91 : decode cX5_set 91 = .ok (.aload_n 0, 1) := by decide +kernel
theorem dX5_set_92 : decode cX5_set 92 = .ok (.getfield 12, 3) := by decide +kernel
theorem dX5_set_95 : decode cX5_set 95 = .ok (.iload_n 2, 1) := by decide +kernel
theorem dX5_set_96 : decode cX5_set 96 = .ok (.putfield 107, 3) := by decide +kernel
theorem dX5_set_99 : decode cX5_set 99 = .ok (.iload_n 3, 1) := by decide +kernel
theorem dX5_set_100 : decode cX5_set 100 = .ok (.ireturn, 1) := by decide +kernel
theorem dX5_is_0 : decode cX5_is 0 = .ok (.iload_n 1, 1) := by decide +kernel
theorem dX5_is_1 : decode cX5_is 1 = .ok (.tableswitch 126 0 8 #[51, 59, 67, 75, 83, 91, 99, 110, 118], 51) := by decide +kernel
theorem dX5_is_52 : decode cX5_is 52 = .ok (.aload_n 0, 1) := by decide +kernel
theorem dX5_is_53 : decode cX5_is 53 = .ok (.getfield 12, 3) := by decide +kernel
theorem dX5_is_56 : decode cX5_is 56 = .ok (.getfield 101, 3) := by decide +kernel
theorem dX5_is_59 : decode cX5_is 59 = .ok (.ireturn, 1) := by decide +kernel
theorem dX5_is_60 : decode cX5_is 60 = .ok (.aload_n 0, 1) := by decide +kernel
theorem dX5_is_61 : decode cX5_is 61 = .ok (.getfield 12, 3) := by decide +kernel
theorem dX5_is_64 : decode cX5_is 64 = .ok (.getfield 104, 3) := by decide +kernel
theorem dX5_is_67 : decode cX5_is 67 = .ok (.ireturn, 1) := by decide +kernel
theorem dX5_is_68 : decode cX5_is 68 = .ok (.aload_n 0, 1) := by decide +kernel
theorem dX5_is_69 : decode cX5_is 69 = .ok (.getfield 12, 3) := by decide +kernel
theorem dX5_is_72 : decode cX5_is 72 = .ok (.getfield 107, 3) := by decide +kernel
theorem dX5_is_75 : decode cX5_is 75 = .ok (.ireturn, 1) := by decide +kernel
theorem dX5_is_76 : decode cX5_is 76 = .ok (.aload_n 0, 1) := by decide +kernel
theorem dX5_is_77 : decode cX5_is 77 = .ok (.getfield 12, 3) := by decide +kernel
theorem dX5_is_80 : decode cX5_is 80 = .ok (.getfield 110, 3) := by decide +kernel
theorem dX5_is_83 : decode cX5_is 83 = .ok (.ireturn, 1) := by decide +kernel
theorem dX5_is_84 : decode cX5_is 84 = .ok (.aload_n 0, 1) := by decide +kernel
theorem dX5_is_85 : decode cX5_is 85 = .ok (.getfield 12, 3) := by decide +kernel
theorem dX5_is_88 : decode cX5_is 88 = .ok (.getfield 113, 3) := by decide +kernel
theorem dX5_is_91 : decode cX5_is 91 = .ok (.ireturn, 1) := by decide +kernel
theorem dX5_is_92 : decode cX5_is 92 = .ok (.aload_n 0, 1) := by decide +kernel
theorem dX5_is_93 : decode cX5_is 93 = .ok (.getfield 12, 3) := by decide +kernel
theorem dX5_is_96 : decode cX5_is 96 = .ok (.getfield 116, 3) := by decide +kernel
theorem dX5_is_99 : decode cX5_is 99 = .ok (.ireturn, 1) := by decide +kernel
theorem dX5_is_100 : decode cX5_is 100 = .ok (.aload_n 0, 1) := by decide +kernel
theorem dX5_is_101 : decode cX5_is 101 = .ok (.getfield 12, 3) := by decide +kernel
theorem dX5_is_104 : decode cX5_is 104 = .ok (.getfield 59, 3) := by decide +kernel
theorem dX5_is_107 : decode cX5_is 107 = .ok (.getfield 62, 3) := by decide +kernel
theorem dX5_is_110 : decode cX5_is 110 = .ok (.ireturn, 1) := by decide +kernel
theorem dX5_is_111 : decode cX5_is 111 = .ok (.aload_n 0, 1) := by decide +kernel
theorem dX5_is_112 : decode cX5_is 112 = .ok (.getfield 12, 3) := by decide +kernel
theorem dX5_is_115 : decode cX5_is 115 = .ok (.getfield 119, 3) := by decide +kernel
theorem dX5_is_118 : decode cX5_is 118 = .ok (.ireturn, 1) := by decide +kernel
theorem dX5_is_119 : decode cX5_is 119 = .ok (.aload_n 0, 1) := by decide +kernel
theorem dX5_is_120 : decode cX5_is 120 = .ok (.getfield 12, 3) := by decide +kernel
theorem dX5_is_123 : decode cX5_is 123 = .ok (.getfield 122, 3) := by decide +kernel
theorem dX5_is_126 : decode cX5_is 126 = .ok (.ireturn, 1) := by decide +kernel
theorem dX5_is_127 : decode cX5_is 127 = .ok (.ldc 74, 2) := by decide +kernel
theorem dX5_is_129 : decode cX5_is 129 = .ok (.ireturn, 1) := by decide +kernel
theorem dX5_type_0 : decode cX5_type 0 = .ok (.iload_n 3, 1) := by decide +kernel
theorem dX5_type_1 : decode cX5_type 1 = .ok (.iconst 1, 1) := by decide +kernel
theorem dX5_type_2 : decode cX5_type 2 = .ok (.bipush 8, 2) := by decide +kernel
theorem dX5_type_4 : decode cX5_type 4 = .ok (.invokestatic 55, 3) := by decide +kernel
theorem dX5_type_7 : decode cX5_type 7 = .ok (.ifCond .eq 11, 3) := by decide +kernel
theorem dX5_type_10 : decode cX5_type 10 = .ok (.lload_n 1, 1) := by decide +kernel
theorem dX5_type_11 : decode cX5_type 11 = .ok (.iload_n 3, 1) := by decide +kernel
theorem dX5_type_12 : decode cX5_type 12 = .ok (.invokestatic 125, 3) := by decide +kernel
theorem dX5_type_15 : decode cX5_type 15 = .ok (.ifCond .ne 5, 3) := by decide +kernel
theorem dX5_type_18 : decode cX5_type 18 = .ok (.iconst (-1), 1) := by decide +kernel
theorem dX5_type_19 : decode cX5_type 19 = .ok (.ireturn, 1) := by decide +kernel
theorem dX5_type_20 : decode cX5_type 20 = .ok (.aload_n 0, 1) := by decide +kernel
theorem dX5_type_21 : decode cX5_type 21 = .ok (.getfield 26, 3) := by decide +kernel
theorem dX5_type_24 : decode cX5_type 24 = .ok (.getfield 129, 3) := by decide +kernel
theorem dX5_type_27 : decode cX5_type 27 = .ok (.iload_n 3, 1) := by decide +kernel
theorem dX5_type_28 : decode cX5_type 28 = .ok (.iadd, 1) := by decide +kernel
theorem dX5_type_29 : decode cX5_type 29 = .ok (.bipush 60, 2) := by decide +kernel
theorem dX5_type_31 : decode cX5_type 31 = .ok (.if_icmp .le 6, 3) := by decide +kernel
theorem dX5_type_34 : decode cX5_type 34 = .ok (.bipush (-3), 2) := by decide +kernel
theorem dX5_type_36 : decode cX5_type 36 = .ok (.ireturn, 1) := by decide +kernel
theorem dX5_type_37 : decode cX5_type 37 = .ok (.iload_n 3, 1) := by decide +kernel
theorem dX5_type_38 : decode cX5_type 38 = .ok (.iconst 1, 1) := by decide +kernel
theorem dX5_type_39 : decode cX5_type 39 = .ok (.isub, 1) := by decide +kernel
theorem dX5_type_40 : decode cX5_type 40 = .ok (.istore 4, 2) := by decide +kernel
theorem dX5_type_42 : decode cX5_type 42 = .ok (.iload 4, 2) := by decide +kernel
theorem dX5_type_44 : decode cX5_type 44 = .ok (.ifCond .lt 22, 3) := by decide +kernel
theorem dX5_type_47 : decode cX5_type 47 = .ok (.aload_n 0, 1) := by decide +kernel
theorem dX5_type_48 : decode cX5_type 48 = .ok (.getfield 26, 3) := by decide +kernel
theorem dX5_type_51 : decode cX5_type 51 = .ok (.lload_n 1, 1) := by decide +kernel
theorem dX5_type_52 : decode cX5_type 52 = .ok (.iload 4, 2) := by decide +kernel
theorem dX5_type_54 : decode cX5_type 54 = .ok (.invokestatic 132, 3) := by decide +kernel
theorem dX5_type_57 : decode cX5_type 57 = .ok (.invokevirtual 136, 3) := by decide +kernel
theorem dX5_type_60 : decode cX5_type 60 = .ok (.iinc 4 (-1), 3) := by decide +kernel
theorem dX5_type_63 : decode cX5_type 63 = .ok (.goto (-21), 3) := by decide +kernel
theorem dX5_type_66 : decode cX5_type 66 = .ok (.aload_n 0, 1) := by decide +kernel
theorem dX5_type_67 : decode cX5_type 67 = .ok (.getfield 26, 3) := by decide +kernel
theorem dX5_type_70 : decode cX5_type 70 = .ok (.getfield 129, 3) := by decide +kernel
theorem dX5_type_73 : decode cX5_type 73 = .ok (.ireturn, 1) := by decide +kernel
theorem dX5_village_0 : decode cX5_village 0 = .ok (.aload_n 0, 1) := by decide +kernel
theorem dX5_village_1 : decode cX5_village 1 = .ok (.getfield 26, 3) := by decide +kernel
theorem dX5_village_4 : decode cX5_village 4 = .ok (.aload_n 0, 1) := by decide +kernel
theorem dX5_village_5 : decode cX5_village 5 = .ok (.getfield 33, 3) := by decide +kernel
theorem dX5_village_8 : decode cX5_village 8 = .ok (.invokevirtual 140, 3) := by decide +kernel
theorem dX5_village_11 : decode cX5_village 11 = .ok (.istore_n 1, 1) := by decide +kernel
theorem dX5_village_12 : decode cX5_village 12 = .ok (.aload_n 0, 1) := by decide +kernel
theorem dX5_village_13 : decode cX5_village 13 = .ok (.getfield 26, 3) := by decide +kernel
theorem dX5_village_16 : decode cX5_village 16 = .ok (.iconst 0, 1) := by decide +kernel
theorem dX5_village_17 : decode cX5_village 17 = .ok (.putfield 129, 3) := by decide +kernel
theorem dX5_village_20 : decode cX5_village 20 = .ok (.iload_n 1, 1) := by decide +kernel
theorem dX5_village_21 : decode cX5_village 21 = .ok (.ifCond .le 14, 3) := by decide +kernel
theorem dX5_village_24 : decode cX5_village 24 = .ok (.aload_n 0, 1) := by decide +kernel
theorem dX5_village_25 : decode cX5_village 25 = .ok (.getfield 12, 3) := by decide +kernel
theorem dX5_village_28 : decode cX5_village 28 = .ok (.aload_n 0, 1) := by decide +kernel
theorem dX5_village_29 : decode cX5_village 29 = .ok (.getfield 33, 3) := by decide +kernel
theorem dX5_village_32 : decode cX5_village 32 = .ok (.invokevirtual 144, 3) := by decide +kernel
theorem dX5_village_35 : decode cX5_village 35 = .ok (.iload_n 1, 1) := by decide +kernel
theorem dX5_village_36 : decode cX5_village 36 = .ok (.ireturn, 1) := by decide +kernel
theorem dX5_plan_0 : decode cX5_plan 0 = .ok (.aload_n 0, 1) := by decide +kernel
theorem dX5_plan_1 : decode cX5_plan 1 = .ok (.getfield 26, 3) := by decide +kernel
theorem dX5_plan_4 : decode cX5_plan 4 = .ok (.aload_n 0, 1) := by decide +kernel
theorem dX5_plan_5 : decode cX5_plan 5 = .ok (.getfield 37, 3) := by decide +kernel
theorem dX5_plan_8 : decode cX5_plan 8 = .ok (.aload_n 0, 1) := by decide +kernel
theorem dX5_plan_9 : decode cX5_plan 9 = .ok (.getfield 12, 3) := by decide +kernel
theorem dX5_plan_12 : decode cX5_plan 12 = .ok (.getfield 59, 3) := by decide +kernel
theorem dX5_plan_15 : decode cX5_plan 15 = .ok (.invokevirtual 148, 3) := by decide +kernel
theorem dX5_plan_18 : decode cX5_plan 18 = .ok (.istore_n 1, 1) := by decide +kernel
theorem dX5_plan_19 : decode cX5_plan 19 = .ok (.aload_n 0, 1) := by decide +kernel
theorem dX5_plan_20 : decode cX5_plan 20 = .ok (.getfield 26, 3) := by decide +kernel
theorem dX5_plan_23 : decode cX5_plan 23 = .ok (.iconst 0, 1) := by decide +kernel
theorem dX5_plan_24 : decode cX5_plan 24 = .ok (.putfield 129, 3) := by decide +kernel
theorem dX5_plan_27 : decode cX5_plan 27 = .ok (.iload_n 1, 1) := by decide +kernel
theorem dX5_plan_28 : decode cX5_plan 28 = .ok (.ifCond .le 15, 3) := by decide +kernel
theorem dX5_plan_31 : decode cX5_plan 31 = .ok (.aload_n 0, 1) := by decide +kernel
theorem dX5_plan_32 : decode cX5_plan 32 = .ok (.getfield 12, 3) := by decide +kernel
theorem dX5_plan_35 : decode cX5_plan 35 = .ok (.aload_n 0, 1) := by decide +kernel
theorem dX5_plan_36 : decode cX5_plan 36 = .ok (.getfield 37, 3) := by decide +kernel
theorem dX5_plan_39 : decode cX5_plan 39 = .ok (.iload_n 1, 1) := by decide +kernel
theorem dX5_plan_40 : decode cX5_plan 40 = .ok (.invokevirtual 152, 3) := by decide +kernel
theorem dX5_plan_43 : decode cX5_plan 43 = .ok (.iload_n 1, 1) := by decide +kernel
theorem dX5_plan_44 : decode cX5_plan 44 = .ok (.ireturn, 1) := by decide +kernel
theorem dX5_may_0 : decode cX5_may 0 = .ok (.iconst 0, 1) := by decide +kernel
theorem dX5_may_1 : decode cX5_may 1 = .ok (.istore_n 1, 1) := by decide +kernel
theorem dX5_may_2 : decode cX5_may 2 = .ok (.iconst 0, 1) := by decide +kernel
theorem dX5_may_3 : decode cX5_may 3 = .ok (.istore_n 2, 1) := by decide +kernel
theorem dX5_may_4 : decode cX5_may 4 = .ok (.iload_n 2, 1) := by decide +kernel
theorem dX5_may_5 : decode cX5_may 5 = .ok (.aload_n 0, 1) := by decide +kernel
theorem dX5_may_6 : decode cX5_may 6 = .ok (.getfield 12, 3) := by decide +kernel
theorem dX5_may_9 : decode cX5_may 9 = .ok (.getfield 59, 3) := by decide +kernel
theorem dX5_may_12 : decode cX5_may 12 = .ok (.getfield 62, 3) := by decide +kernel
theorem dX5_may_15 : decode cX5_may 15 = .ok (.if_icmp .ge 26, 3) := by decide +kernel
theorem dX5_may_18 : decode cX5_may 18 = .ok (.aload_n 0, 1) := by decide +kernel
theorem dX5_may_19 : decode cX5_may 19 = .ok (.getfield 12, 3) := by decide +kernel
theorem dX5_may_22 : decode cX5_may 22 = .ok (.iload_n 2, 1) := by decide +kernel
theorem dX5_may_23 : decode cX5_may 23 = .ok (.invokevirtual 156, 3) := by decide +kernel
theorem dX5_may_26 : decode cX5_may 26 = .ok (.ifCond .eq 9, 3) := by decide +kernel
theorem dX5_may_29 : decode cX5_may 29 = .ok (.iload_n 1, 1) := by decide +kernel
theorem dX5_may_30 : decode cX5_may 30 = .ok (.iconst 1, 1) := by decide +kernel
theorem dX5_may_31 : decode cX5_may 31 = .ok (.iload_n 2, 1) := by decide +kernel
theorem dX5_may_32 : decode cX5_may 32 = .ok (.ishl, 1) := by decide +kernel
theorem dX5_may_33 : decode cX5_may 33 = .ok (.ior, 1) := by decide +kernel
theorem dX5_may_34 : decode cX5_may 34 = .ok (.istore_n 1, 1) := by decide +kernel
theorem dX5_may_35 : decode cX5_may 35 = .ok (.iinc 2 1, 3) := by decide +kernel
theorem dX5_may_38 : decode cX5_may 38 = .ok (.goto (-34), 3) := by decide +kernel
theorem dX5_may_41 : decode cX5_may 41 = .ok (.iload_n 1, 1) := by decide +kernel
theorem dX5_may_42 : decode cX5_may 42 = .ok (.ireturn, 1) := by decide +kernel
theorem dX5_draw_0 : decode cX5_draw 0 = .ok (.iload_n 1, 1) := by decide +kernel
theorem dX5_draw_1 : decode cX5_draw 1 = .ok (.bipush 9, 2) := by decide +kernel
theorem dX5_draw_3 : decode cX5_draw 3 = .ok (.if_icmp .eq 19, 3) := by decide +kernel
theorem dX5_draw_6 : decode cX5_draw 6 = .ok (.aload_n 0, 1) := by decide +kernel
theorem dX5_draw_7 : decode cX5_draw 7 = .ok (.getfield 12, 3) := by decide +kernel
theorem dX5_draw_10 : decode cX5_draw 10 = .ok (.getfield 59, 3) := by decide +kernel
theorem dX5_draw_13 : decode cX5_draw 13 = .ok (.iload_n 1, 1) := by decide +kernel
theorem dX5_draw_14 : decode cX5_draw 14 = .ok (.invokevirtual 70, 3) := by decide +kernel
theorem dX5_draw_17 : decode cX5_draw 17 = .ok (.ifCond .ne 5, 3) := by decide +kernel
theorem dX5_draw_20 : decode cX5_draw 20 = .ok (.iconst (-1), 1) := by decide +kernel
theorem dX5_draw_21 : decode cX5_draw 21 = .ok (.ireturn, 1) := by decide +kernel
theorem dX5_draw_22 : decode cX5_draw 22 = .ok (.iload_n 1, 1) := by decide +kernel
theorem dX5_draw_23 : decode cX5_draw 23 = .ok (.bipush 9, 2) := by decide +kernel
theorem dX5_draw_25 : decode cX5_draw 25 = .ok (.if_icmp .eq 17, 3) := by decide +kernel
theorem dX5_draw_28 : decode cX5_draw 28 = .ok (.aload_n 0, 1) := by decide +kernel
theorem dX5_draw_29 : decode cX5_draw 29 = .ok (.getfield 12, 3) := by decide +kernel
theorem dX5_draw_32 : decode cX5_draw 32 = .ok (.iload_n 1, 1) := by decide +kernel
theorem dX5_draw_33 : decode cX5_draw 33 = .ok (.invokevirtual 156, 3) := by decide +kernel
theorem dX5_draw_36 : decode cX5_draw 36 = .ok (.ifCond .ne 6, 3) := by decide +kernel
theorem dX5_draw_39 : decode cX5_draw 39 = .ok (.bipush (-2), 2) := by decide +kernel
theorem dX5_draw_41 : decode cX5_draw 41 = .ok (.ireturn, 1) := by decide +kernel
theorem dX5_draw_42 : decode cX5_draw 42 = .ok (.aload_n 0, 1) := by decide +kernel
theorem dX5_draw_43 : decode cX5_draw 43 = .ok (.getfield 12, 3) := by decide +kernel
theorem dX5_draw_46 : decode cX5_draw 46 = .ok (.iconst 1, 1) := by decide +kernel
theorem dX5_draw_47 : decode cX5_draw 47 = .ok (.invokevirtual 159, 3) := by decide +kernel
theorem dX5_draw_50 : decode cX5_draw 50 = .ok (.ifCond .ne 6, 3) := by decide +kernel
theorem dX5_draw_53 : decode cX5_draw 53 = .ok (.bipush (-3), 2) := by decide +kernel
theorem dX5_draw_55 : decode cX5_draw 55 = .ok (.ireturn, 1) := by decide +kernel
theorem dX5_draw_56 : decode cX5_draw 56 = .ok (.aload_n 0, 1) := by decide +kernel
theorem dX5_draw_57 : decode cX5_draw 57 = .ok (.getfield 12, 3) := by decide +kernel
theorem dX5_draw_60 : decode cX5_draw 60 = .ok (.iload_n 1, 1) := by decide +kernel
theorem dX5_draw_61 : decode cX5_draw 61 = .ok (.invokevirtual 162, 3) := by decide +kernel
theorem dX5_draw_64 : decode cX5_draw 64 = .ok (.ireturn, 1) := by decide +kernel
theorem dX5_pass_0 : decode cX5_pass 0 = .ok (.iload_n 1, 1) := by decide +kernel
theorem dX5_pass_1 : decode cX5_pass 1 = .ok (.iconst 1, 1) := by decide +kernel
theorem dX5_pass_2 : decode cX5_pass 2 = .ok (.bipush 60, 2) := by decide +kernel
theorem dX5_pass_4 : decode cX5_pass 4 = .ok (.invokestatic 55, 3) := by decide +kernel
theorem dX5_pass_7 : decode cX5_pass 7 = .ok (.ifCond .ne 5, 3) := by decide +kernel
theorem dX5_pass_10 : decode cX5_pass 10 = .ok (.iconst (-1), 1) := by decide +kernel
theorem dX5_pass_11 : decode cX5_pass 11 = .ok (.ireturn, 1) := by decide +kernel
theorem dX5_pass_12 : decode cX5_pass 12 = .ok (.aload_n 0, 1) := by decide +kernel
theorem dX5_pass_13 : decode cX5_pass 13 = .ok (.getfield 12, 3) := by decide +kernel
theorem dX5_pass_16 : decode cX5_pass 16 = .ok (.iload_n 1, 1) := by decide +kernel
theorem dX5_pass_17 : decode cX5_pass 17 = .ok (.invokevirtual 159, 3) := by decide +kernel
theorem dX5_pass_20 : decode cX5_pass 20 = .ok (.ifCond .ne 6, 3) := by decide +kernel
theorem dX5_pass_23 : decode cX5_pass 23 = .ok (.bipush (-3), 2) := by decide +kernel
theorem dX5_pass_25 : decode cX5_pass 25 = .ok (.ireturn, 1) := by decide +kernel
theorem dX5_pass_26 : decode cX5_pass 26 = .ok (.iconst 0, 1) := by decide +kernel
theorem dX5_pass_27 : decode cX5_pass 27 = .ok (.istore_n 2, 1) := by decide +kernel
theorem dX5_pass_28 : decode cX5_pass 28 = .ok (.iload_n 2, 1) := by decide +kernel
theorem dX5_pass_29 : decode cX5_pass 29 = .ok (.iload_n 1, 1) := by decide +kernel
theorem dX5_pass_30 : decode cX5_pass 30 = .ok (.if_icmp .ge 19, 3) := by decide +kernel
theorem dX5_pass_33 : decode cX5_pass 33 = .ok (.aload_n 0, 1) := by decide +kernel
theorem dX5_pass_34 : decode cX5_pass 34 = .ok (.getfield 12, 3) := by decide +kernel
theorem dX5_pass_37 : decode cX5_pass 37 = .ok (.bipush 9, 2) := by decide +kernel
theorem dX5_pass_39 : decode cX5_pass 39 = .ok (.invokevirtual 162, 3) := by decide +kernel
theorem dX5_pass_42 : decode cX5_pass 42 = .ok (.pop, 1) := by decide +kernel
theorem dX5_pass_43 : decode cX5_pass 43 = .ok (.iinc 2 1, 3) := by decide +kernel
theorem dX5_pass_46 : decode cX5_pass 46 = .ok (.goto (-18), 3) := by decide +kernel
theorem dX5_pass_49 : decode cX5_pass 49 = .ok (.aload_n 0, 1) := by decide +kernel
theorem dX5_pass_50 : decode cX5_pass 50 = .ok (.getfield 12, 3) := by decide +kernel
theorem dX5_pass_53 : decode cX5_pass 53 = .ok (.getfield 116, 3) := by decide +kernel
theorem dX5_pass_56 : decode cX5_pass 56 = .ok (.ireturn, 1) := by decide +kernel
theorem dX5_run_0 : decode cX5_run 0 = .ok (.aload_n 0, 1) := by decide +kernel
theorem dX5_run_1 : decode cX5_run 1 = .ok (.getfield 12, 3) := by decide +kernel
theorem dX5_run_4 : decode cX5_run 4 = .ok (.aload_n 0, 1) := by decide +kernel
theorem dX5_run_5 : decode cX5_run 5 = .ok (.getfield 12, 3) := by decide +kernel
theorem dX5_run_8 : decode cX5_run 8 = .ok (.getfield 119, 3) := by decide +kernel
theorem dX5_run_11 : decode cX5_run 11 = .ok (.invokevirtual 159, 3) := by decide +kernel
theorem dX5_run_14 : decode cX5_run 14 = .ok (.ifCond .ne 6, 3) := by decide +kernel
theorem dX5_run_17 : decode cX5_run 17 = .ok (.bipush (-3), 2) := by decide +kernel
theorem dX5_run_19 : decode cX5_run 19 = .ok (.ireturn, 1) := by decide +kernel
theorem dX5_run_20 : decode cX5_run 20 = .ok (.aload_n 0, 1) := by decide +kernel
theorem dX5_run_21 : decode cX5_run 21 = .ok (.getfield 12, 3) := by decide +kernel
theorem dX5_run_24 : decode cX5_run 24 = .ok (.invokevirtual 166, 3) := by decide +kernel
theorem dX5_run_27 : decode cX5_run 27 = .ok (.ireturn, 1) := by decide +kernel
theorem dX5_most_0 : decode cX5_most 0 = .ok (.iload_n 1, 1) := by decide +kernel
theorem dX5_most_1 : decode cX5_most 1 = .ok (.iconst 1, 1) := by decide +kernel
theorem dX5_most_2 : decode cX5_most 2 = .ok (.iconst 5, 1) := by decide +kernel
theorem dX5_most_3 : decode cX5_most 3 = .ok (.invokestatic 55, 3) := by decide +kernel
theorem dX5_most_6 : decode cX5_most 6 = .ok (.ifCond .eq 18, 3) := by decide +kernel
theorem dX5_most_9 : decode cX5_most 9 = .ok (.aload_n 0, 1) := by decide +kernel
theorem dX5_most_10 : decode cX5_most 10 = .ok (.aload_n 0, 1) := by decide +kernel
theorem dX5_most_11 : decode cX5_most 11 = .ok (.getfield 12, 3) := by decide +kernel
theorem dX5_most_14 : decode cX5_most 14 = .ok (.getfield 101, 3) := by decide +kernel
theorem dX5_most_17 : decode cX5_most 17 = .ok (.iload_n 1, 1) := by decide +kernel
theorem dX5_most_18 : decode cX5_most 18 = .ok (.invokevirtual 170, 3) := by decide +kernel
theorem dX5_most_21 : decode cX5_most 21 = .ok (.goto 4, 3) := by decide +kernel
theorem dX5_most_24 : decode cX5_most 24 = .ok (.iconst (-1), 1) := by decide +kernel
theorem dX5_most_25 : decode cX5_most 25 = .ok (.ireturn, 1) := by decide +kernel
theorem dX5_row_0 : decode cX5_row 0 = .ok (.iload_n 1, 1) := by decide +kernel
theorem dX5_row_1 : decode cX5_row 1 = .ok (.iconst 1, 1) := by decide +kernel
theorem dX5_row_2 : decode cX5_row 2 = .ok (.iconst 5, 1) := by decide +kernel
theorem dX5_row_3 : decode cX5_row 3 = .ok (.invokestatic 55, 3) := by decide +kernel
theorem dX5_row_6 : decode cX5_row 6 = .ok (.ifCond .eq 14, 3) := by decide +kernel
theorem dX5_row_9 : decode cX5_row 9 = .ok (.iload_n 2, 1) := by decide +kernel
theorem dX5_row_10 : decode cX5_row 10 = .ok (.iconst 0, 1) := by decide +kernel
theorem dX5_row_11 : decode cX5_row 11 = .ok (.iload_n 1, 1) := by decide +kernel
theorem dX5_row_12 : decode cX5_row 12 = .ok (.iconst 1, 1) := by decide +kernel
theorem dX5_row_13 : decode cX5_row 13 = .ok (.isub, 1) := by decide +kernel
theorem dX5_row_14 : decode cX5_row 14 = .ok (.invokestatic 55, 3) := by decide +kernel
theorem dX5_row_17 : decode cX5_row 17 = .ok (.ifCond .ne 5, 3) := by decide +kernel
theorem dX5_row_20 : decode cX5_row 20 = .ok (.iconst (-1), 1) := by decide +kernel
theorem dX5_row_21 : decode cX5_row 21 = .ok (.ireturn, 1) := by decide +kernel
theorem dX5_row_22 : decode cX5_row 22 = .ok (.aload_n 0, 1) := by decide +kernel
theorem dX5_row_23 : decode cX5_row 23 = .ok (.aload_n 0, 1) := by decide +kernel
theorem dX5_row_24 : decode cX5_row 24 = .ok (.getfield 12, 3) := by decide +kernel
theorem dX5_row_27 : decode cX5_row 27 = .ok (.getfield 101, 3) := by decide +kernel
theorem dX5_row_30 : decode cX5_row 30 = .ok (.iload_n 1, 1) := by decide +kernel
theorem dX5_row_31 : decode cX5_row 31 = .ok (.invokevirtual 170, 3) := by decide +kernel
theorem dX5_row_34 : decode cX5_row 34 = .ok (.pop, 1) := by decide +kernel
theorem dX5_row_35 : decode cX5_row 35 = .ok (.aload_n 0, 1) := by decide +kernel
theorem dX5_row_36 : decode cX5_row 36 = .ok (.getfield 44, 3) := by decide +kernel
theorem dX5_row_39 : decode cX5_row 39 = .ok (.getfield 174, 3) := by decide +kernel
theorem dX5_row_42 : decode cX5_row 42 = .ok (.iload_n 2, 1) := by decide +kernel
theorem dX5_row_43 : decode cX5_row 43 = .ok (.iaload, 1) := by decide +kernel
theorem dX5_row_44 : decode cX5_row 44 = .ok (.ireturn, 1) := by decide +kernel
theorem dX5_fewest_0 : decode cX5_fewest 0 = .ok (.iload_n 1, 1) := by decide +kernel
theorem dX5_fewest_1 : decode cX5_fewest 1 = .ok (.iconst 0, 1) := by decide +kernel
theorem dX5_fewest_2 : decode cX5_fewest 2 = .ok (.bipush 99, 2) := by decide +kernel
theorem dX5_fewest_4 : decode cX5_fewest 4 = .ok (.invokestatic 55, 3) := by decide +kernel
theorem dX5_fewest_7 : decode cX5_fewest 7 = .ok (.ifCond .ne 5, 3) := by decide +kernel
theorem dX5_fewest_10 : decode cX5_fewest 10 = .ok (.iconst (-1), 1) := by decide +kernel
theorem dX5_fewest_11 : decode cX5_fewest 11 = .ok (.ireturn, 1) := by decide +kernel
theorem dX5_fewest_12 : decode cX5_fewest 12 = .ok (.aload_n 0, 1) := by decide +kernel
theorem dX5_fewest_13 : decode cX5_fewest 13 = .ok (.getfield 44, 3) := by decide +kernel
theorem dX5_fewest_16 : decode cX5_fewest 16 = .ok (.aload_n 0, 1) := by decide +kernel
theorem dX5_fewest_17 : decode cX5_fewest 17 = .ok (.getfield 12, 3) := by decide +kernel
theorem dX5_fewest_20 : decode cX5_fewest 20 = .ok (.invokevirtual 177, 3) := by decide +kernel
theorem dX5_fewest_23 : decode cX5_fewest 23 = .ok (.iconst 0, 1) := by decide +kernel
theorem dX5_fewest_24 : decode cX5_fewest 24 = .ok (.istore_n 2, 1) := by decide +kernel
theorem dX5_fewest_25 : decode cX5_fewest 25 = .ok (.iload_n 2, 1) := by decide +kernel
theorem dX5_fewest_26 : decode cX5_fewest 26 = .ok (.iconst 5, 1) := by decide +kernel
theorem dX5_fewest_27 : decode cX5_fewest 27 = .ok (.if_icmp .gt 30, 3) := by decide +kernel
theorem dX5_fewest_30 : decode cX5_fewest 30 = .ok (.aload_n 0, 1) := by decide +kernel
theorem dX5_fewest_31 : decode cX5_fewest 31 = .ok (.getfield 44, 3) := by decide +kernel
theorem dX5_fewest_34 : decode cX5_fewest 34 = .ok (.iload_n 2, 1) := by decide +kernel
theorem dX5_fewest_35 : decode cX5_fewest 35 = .ok (.aload_n 0, 1) := by decide +kernel
theorem dX5_fewest_36 : decode cX5_fewest 36 = .ok (.getfield 12, 3) := by decide +kernel
theorem dX5_fewest_39 : decode cX5_fewest 39 = .ok (.getfield 101, 3) := by decide +kernel
theorem dX5_fewest_42 : decode cX5_fewest 42 = .ok (.invokevirtual 181, 3) := by decide +kernel
theorem dX5_fewest_45 : decode cX5_fewest 45 = .ok (.iload_n 1, 1) := by decide +kernel
theorem dX5_fewest_46 : decode cX5_fewest 46 = .ok (.if_icmp .lt 5, 3) := by decide +kernel
theorem dX5_fewest_49 : decode cX5_fewest 49 = .ok (.iload_n 2, 1) := by decide +kernel
theorem dX5_fewest_50 : decode cX5_fewest 50 = .ok (.ireturn, 1) := by decide +kernel
theorem dX5_fewest_51 : decode cX5_fewest 51 = .ok (.iinc 2 1, 3) := by decide +kernel
theorem dX5_fewest_54 : decode cX5_fewest 54 = .ok (.goto (-29), 3) := by decide +kernel
theorem dX5_fewest_57 : decode cX5_fewest 57 = .ok (.bipush (-4), 2) := by decide +kernel
theorem dX5_fewest_59 : decode cX5_fewest 59 = .ok (.ireturn, 1) := by decide +kernel
theorem dX5_peace_0 : decode cX5_peace 0 = .ok (.aload_n 0, 1) := by decide +kernel
theorem dX5_peace_1 : decode cX5_peace 1 = .ok (.getfield 44, 3) := by decide +kernel
theorem dX5_peace_4 : decode cX5_peace 4 = .ok (.aload_n 0, 1) := by decide +kernel
theorem dX5_peace_5 : decode cX5_peace 5 = .ok (.getfield 12, 3) := by decide +kernel
theorem dX5_peace_8 : decode cX5_peace 8 = .ok (.invokevirtual 177, 3) := by decide +kernel
theorem dX5_peace_11 : decode cX5_peace 11 = .ok (.aload_n 0, 1) := by decide +kernel
theorem dX5_peace_12 : decode cX5_peace 12 = .ok (.getfield 44, 3) := by decide +kernel
theorem dX5_peace_15 : decode cX5_peace 15 = .ok (.iconst 4, 1) := by decide +kernel
theorem dX5_peace_16 : decode cX5_peace 16 = .ok (.aload_n 0, 1) := by decide +kernel
theorem dX5_peace_17 : decode cX5_peace 17 = .ok (.getfield 12, 3) := by decide +kernel
theorem dX5_peace_20 : decode cX5_peace 20 = .ok (.getfield 101, 3) := by decide +kernel
theorem dX5_peace_23 : decode cX5_peace 23 = .ok (.invokevirtual 181, 3) := by decide +kernel
theorem dX5_peace_26 : decode cX5_peace 26 = .ok (.istore_n 1, 1) := by decide +kernel
theorem dX5_peace_27 : decode cX5_peace 27 = .ok (.bipush (-4), 2) := by decide +kernel
theorem dX5_peace_29 : decode cX5_peace 29 = .ok (.istore_n 2, 1) := by decide +kernel
theorem dX5_peace_30 : decode cX5_peace 30 = .ok (.iconst 0, 1) := by decide +kernel
theorem dX5_peace_31 : decode cX5_peace 31 = .ok (.istore_n 3, 1) := by decide +kernel
theorem dX5_peace_32 : decode cX5_peace 32 = .ok (.iload_n 3, 1) := by decide +kernel
theorem dX5_peace_33 : decode cX5_peace 33 = .ok (.aload_n 0, 1) := by decide +kernel
theorem dX5_peace_34 : decode cX5_peace 34 = .ok (.getfield 12, 3) := by decide +kernel
theorem dX5_peace_37 : decode cX5_peace 37 = .ok (.getfield 59, 3) := by decide +kernel
theorem dX5_peace_40 : decode cX5_peace 40 = .ok (.getfield 62, 3) := by decide +kernel
theorem dX5_peace_43 : decode cX5_peace 43 = .ok (.if_icmp .ge 81, 3) := by decide +kernel
theorem dX5_peace_46 : decode cX5_peace 46 = .ok (.iload_n 3, 1) := by decide +kernel
theorem dX5_peace_47 : decode cX5_peace 47 = .ok (.iconst 1, 1) := by decide +kernel
theorem dX5_peace_48 : decode cX5_peace 48 = .ok (.iadd, 1) := by decide +kernel
theorem dX5_peace_49 : decode cX5_peace 49 = .ok (.istore 4, 2) := by decide +kernel
theorem dX5_peace_51 : decode cX5_peace 51 = .ok (.iload 4, 2) := by decide +kernel
theorem dX5_peace_53 : decode cX5_peace 53 = .ok (.aload_n 0, 1) := by decide +kernel
theorem dX5_peace_54 : decode cX5_peace 54 = .ok (.getfield 12, 3) := by decide +kernel
theorem dX5_peace_57 : decode cX5_peace 57 = .ok (.getfield 59, 3) := by decide +kernel
theorem dX5_peace_60 : decode cX5_peace 60 = .ok (.getfield 62, 3) := by decide +kernel
theorem dX5_peace_63 : decode cX5_peace 63 = .ok (.if_icmp .ge 55, 3) := by decide +kernel
theorem dX5_peace_66 : decode cX5_peace 66 = .ok (.aload_n 0, 1) := by decide +kernel
theorem dX5_peace_67 : decode cX5_peace 67 = .ok (.getfield 12, 3) := by decide +kernel
theorem dX5_peace_70 : decode cX5_peace 70 = .ok (.getfield 59, 3) := by decide +kernel
theorem dX5_peace_73 : decode cX5_peace 73 = .ok (.iload_n 3, 1) := by decide +kernel
theorem dX5_peace_74 : decode cX5_peace 74 = .ok (.iload 4, 2) := by decide +kernel
theorem dX5_peace_76 : decode cX5_peace 76 = .ok (.invokevirtual 90, 3) := by decide +kernel
theorem dX5_peace_79 : decode cX5_peace 79 = .ok (.ifCond .eq 13, 3) := by decide +kernel
theorem dX5_peace_82 : decode cX5_peace 82 = .ok (.aload_n 0, 1) := by decide +kernel
theorem dX5_peace_83 : decode cX5_peace 83 = .ok (.iload_n 3, 1) := by decide +kernel
theorem dX5_peace_84 : decode cX5_peace 84 = .ok (.iload 4, 2) := by decide +kernel
theorem dX5_peace_86 : decode cX5_peace 86 = .ok (.invokevirtual 184, 3) := by decide +kernel
theorem dX5_peace_89 : decode cX5_peace 89 = .ok (.goto 4, 3) := by decide +kernel
theorem dX5_peace_92 : decode cX5_peace 92 = .ok (.iconst 0, 1) := by decide +kernel
theorem dX5_peace_93 : decode cX5_peace 93 = .ok (.istore 5, 2) := by decide +kernel
theorem dX5_peace_95 : decode cX5_peace 95 = .ok (.iload 5, 2) := by decide +kernel
theorem dX5_peace_97 : decode cX5_peace 97 = .ok (.iload_n 1, 1) := by decide +kernel
theorem dX5_peace_98 : decode cX5_peace 98 = .ok (.if_icmp .le 14, 3) := by decide +kernel
theorem dX5_peace_101 : decode cX5_peace 101 = .ok (.iload 5, 2) := by decide +kernel
theorem dX5_peace_103 : decode cX5_peace 103 = .ok (.istore_n 1, 1) := by decide +kernel
theorem dX5_peace_104 : decode cX5_peace 104 = .ok (.bipush 10, 2) := by decide +kernel
theorem dX5_peace_106 : decode cX5_peace 106 = .ok (.iload_n 3, 1) := by decide +kernel
theorem dX5_peace_107 : decode cX5_peace 107 = .ok (.imul, 1) := by decide +kernel
theorem dX5_peace_108 : decode cX5_peace 108 = .ok (.iload 4, 2) := by decide +kernel
theorem dX5_peace_110 : decode cX5_peace 110 = .ok (.iadd, 1) := by decide +kernel
theorem dX5_peace_111 : decode cX5_peace 111 = .ok (.istore_n 2, 1) := by decide +kernel
theorem dX5_peace_112 : decode cX5_peace 112 = .ok (.iinc 4 1, 3) := by decide +kernel
theorem dX5_peace_115 : decode cX5_peace 115 = .ok (.goto (-64), 3) := by decide +kernel
theorem dX5_peace_118 : decode cX5_peace 118 = .ok (.iinc 3 1, 3) := by decide +kernel
theorem dX5_peace_121 : decode cX5_peace 121 = .ok (.goto (-89), 3) := by decide +kernel
theorem dX5_peace_124 : decode cX5_peace 124 = .ok (.iload_n 2, 1) := by decide +kernel
theorem dX5_peace_125 : decode cX5_peace 125 = .ok (.ireturn, 1) := by decide +kernel
theorem dX5_gives_0 : decode cX5_gives 0 = .ok (.aload_n 0, 1) := by decide +kernel
theorem dX5_gives_1 : decode cX5_gives 1 = .ok (.getfield 12, 3) := by decide +kernel
theorem dX5_gives_4 : decode cX5_gives 4 = .ok (.getfield 59, 3) := by decide +kernel
theorem dX5_gives_7 : decode cX5_gives 7 = .ok (.iload_n 1, 1) := by decide +kernel
theorem dX5_gives_8 : decode cX5_gives 8 = .ok (.invokevirtual 70, 3) := by decide +kernel
theorem dX5_gives_11 : decode cX5_gives 11 = .ok (.ifCond .eq 10, 3) := by decide +kernel
theorem dX5_gives_14 : decode cX5_gives 14 = .ok (.iload_n 2, 1) := by decide +kernel
theorem dX5_gives_15 : decode cX5_gives 15 = .ok (.invokestatic 98, 3) := by decide +kernel
theorem dX5_gives_18 : decode cX5_gives 18 = .ok (.ifCond .ne 5, 3) := by decide +kernel
theorem dX5_gives_21 : decode cX5_gives 21 = .ok (.iconst (-1), 1) := by decide +kernel
theorem dX5_gives_22 : decode cX5_gives 22 = .ok (.ireturn, 1) := by decide +kernel
theorem dX5_gives_23 : decode cX5_gives 23 = .ok (.aload_n 0, 1) := by decide +kernel
theorem dX5_gives_24 : decode cX5_gives 24 = .ok (.getfield 12, 3) := by decide +kernel
theorem dX5_gives_27 : decode cX5_gives 27 = .ok (.iload_n 1, 1) := by decide +kernel
theorem dX5_gives_28 : decode cX5_gives 28 = .ok (.iload_n 2, 1) := by decide +kernel
theorem dX5_gives_29 : decode cX5_gives 29 = .ok (.invokevirtual 187, 3) := by decide +kernel
theorem dX5_gives_32 : decode cX5_gives 32 = .ok (.ireturn, 1) := by decide +kernel
theorem dX5_stranger_0 : decode cX5_stranger 0 = .ok (.iload_n 1, 1) := by decide +kernel
theorem dX5_stranger_1 : decode cX5_stranger 1 = .ok (.invokestatic 98, 3) := by decide +kernel
theorem dX5_stranger_4 : decode cX5_stranger 4 = .ok (.ifCond .eq 25, 3) := by decide +kernel
theorem dX5_stranger_7 : decode cX5_stranger 7 = .ok (.aload_n 0, 1) := by decide +kernel
theorem dX5_stranger_8 : decode cX5_stranger 8 = .ok (.getfield 12, 3) := by decide +kernel
theorem dX5_stranger_11 : decode cX5_stranger 11 = .ok (.getfield 59, 3) := by decide +kernel
theorem dX5_stranger_14 : decode cX5_stranger 14 = .ok (.iload_n 2, 1) := by decide +kernel
theorem dX5_stranger_15 : decode cX5_stranger 15 = .ok (.invokevirtual 70, 3) := by decide +kernel
theorem dX5_stranger_18 : decode cX5_stranger 18 = .ok (.ifCond .eq 11, 3) := by decide +kernel
theorem dX5_stranger_21 : decode cX5_stranger 21 = .ok (.iload_n 3, 1) := by decide +kernel
theorem dX5_stranger_22 : decode cX5_stranger 22 = .ok (.i2l, 1) := by decide +kernel
theorem dX5_stranger_23 : decode cX5_stranger 23 = .ok (.invokestatic 190, 3) := by decide +kernel
theorem dX5_stranger_26 : decode cX5_stranger 26 = .ok (.ifCond .ne 5, 3) := by decide +kernel
theorem dX5_stranger_29 : decode cX5_stranger 29 = .ok (.iconst (-1), 1) := by decide +kernel
theorem dX5_stranger_30 : decode cX5_stranger 30 = .ok (.ireturn, 1) := by decide +kernel
theorem dX5_stranger_31 : decode cX5_stranger 31 = .ok (.iconst 0, 1) := by decide +kernel
theorem dX5_stranger_32 : decode cX5_stranger 32 = .ok (.istore 4, 2) := by decide +kernel
theorem dX5_stranger_34 : decode cX5_stranger 34 = .ok (.bipush (-3), 2) := by decide +kernel
theorem dX5_stranger_36 : decode cX5_stranger 36 = .ok (.istore 5, 2) := by decide +kernel
theorem dX5_stranger_38 : decode cX5_stranger 38 = .ok (.iload 5, 2) := by decide +kernel
theorem dX5_stranger_40 : decode cX5_stranger 40 = .ok (.iconst 3, 1) := by decide +kernel
theorem dX5_stranger_41 : decode cX5_stranger 41 = .ok (.if_icmp .gt 49, 3) := by decide +kernel
theorem dX5_stranger_44 : decode cX5_stranger 44 = .ok (.iload_n 1, 1) := by decide +kernel
theorem dX5_stranger_45 : decode cX5_stranger 45 = .ok (.iload 5, 2) := by decide +kernel
theorem dX5_stranger_47 : decode cX5_stranger 47 = .ok (.iadd, 1) := by decide +kernel
theorem dX5_stranger_48 : decode cX5_stranger 48 = .ok (.invokestatic 194, 3) := by decide +kernel
theorem dX5_stranger_51 : decode cX5_stranger 51 = .ok (.invokestatic 197, 3) := by decide +kernel
theorem dX5_stranger_54 : decode cX5_stranger 54 = .ok (.istore 6, 2) := by decide +kernel
theorem dX5_stranger_56 : decode cX5_stranger 56 = .ok (.aload_n 0, 1) := by decide +kernel
theorem dX5_stranger_57 : decode cX5_stranger 57 = .ok (.getfield 12, 3) := by decide +kernel
theorem dX5_stranger_60 : decode cX5_stranger 60 = .ok (.getfield 59, 3) := by decide +kernel
theorem dX5_stranger_63 : decode cX5_stranger 63 = .ok (.iload_n 2, 1) := by decide +kernel
theorem dX5_stranger_64 : decode cX5_stranger 64 = .ok (.iload 6, 2) := by decide +kernel
theorem dX5_stranger_66 : decode cX5_stranger 66 = .ok (.invokevirtual 200, 3) := by decide +kernel
theorem dX5_stranger_69 : decode cX5_stranger 69 = .ok (.iload_n 3, 1) := by decide +kernel
theorem dX5_stranger_70 : decode cX5_stranger 70 = .ok (.if_icmp .ne 14, 3) := by decide +kernel
theorem dX5_stranger_73 : decode cX5_stranger 73 = .ok (.iload 4, 2) := by decide +kernel
theorem dX5_stranger_75 : decode cX5_stranger 75 = .ok (.iconst 1, 1) := by decide +kernel
theorem dX5_stranger_76 : decode cX5_stranger 76 = .ok (.iload 5, 2) := by decide +kernel
theorem dX5_stranger_78 : decode cX5_stranger 78 = .ok (.iconst 3, 1) := by decide +kernel
theorem dX5_stranger_79 : decode cX5_stranger 79 = .ok (.iadd, 1) := by decide +kernel
theorem dX5_stranger_80 : decode cX5_stranger 80 = .ok (.ishl, 1) := by decide +kernel
theorem dX5_stranger_81 : decode cX5_stranger 81 = .ok (.ior, 1) := by decide +kernel
theorem dX5_stranger_82 : decode cX5_stranger 82 = .ok (.istore 4, 2) := by decide +kernel
theorem dX5_stranger_84 : decode cX5_stranger 84 = .ok (.iinc 5 1, 3) := by decide +kernel
theorem dX5_stranger_87 : decode cX5_stranger 87 = .ok (.goto (-49), 3) := by decide +kernel
theorem dX5_stranger_90 : decode cX5_stranger 90 = .ok (.iload 4, 2) := by decide +kernel
theorem dX5_stranger_92 : decode cX5_stranger 92 = .ok (.ireturn, 1) := by decide +kernel
theorem dX5_liar_0 : decode cX5_liar 0 = .ok (.aload_n 0, 1) := by decide +kernel
theorem dX5_liar_1 : decode cX5_liar 1 = .ok (.iload_n 1, 1) := by decide +kernel
theorem dX5_liar_2 : decode cX5_liar 2 = .ok (.iload_n 2, 1) := by decide +kernel
theorem dX5_liar_3 : decode cX5_liar 3 = .ok (.iload_n 3, 1) := by decide +kernel
theorem dX5_liar_4 : decode cX5_liar 4 = .ok (.invokevirtual 203, 3) := by decide +kernel
theorem dX5_liar_7 : decode cX5_liar 7 = .ok (.ifCond .eq 22, 3) := by decide +kernel
theorem dX5_liar_10 : decode cX5_liar 10 = .ok (.aload_n 0, 1) := by decide +kernel
theorem dX5_liar_11 : decode cX5_liar 11 = .ok (.iload 4, 2) := by decide +kernel
theorem dX5_liar_13 : decode cX5_liar 13 = .ok (.iload 5, 2) := by decide +kernel
theorem dX5_liar_15 : decode cX5_liar 15 = .ok (.iload 6, 2) := by decide +kernel
theorem dX5_liar_17 : decode cX5_liar 17 = .ok (.invokevirtual 203, 3) := by decide +kernel
theorem dX5_liar_20 : decode cX5_liar 20 = .ok (.ifCond .eq 9, 3) := by decide +kernel
theorem dX5_liar_23 : decode cX5_liar 23 = .ok (.iload_n 1, 1) := by decide +kernel
theorem dX5_liar_24 : decode cX5_liar 24 = .ok (.iload 4, 2) := by decide +kernel
theorem dX5_liar_26 : decode cX5_liar 26 = .ok (.if_icmp .ne 5, 3) := by decide +kernel
theorem dX5_liar_29 : decode cX5_liar 29 = .ok (.iconst (-1), 1) := by decide +kernel
theorem dX5_liar_30 : decode cX5_liar 30 = .ok (.ireturn, 1) := by decide +kernel
theorem dX5_liar_31 : decode cX5_liar 31 = .ok (.aload_n 0, 1) := by decide +kernel
theorem dX5_liar_32 : decode cX5_liar 32 = .ok (.getfield 12, 3) := by decide +kernel
theorem dX5_liar_35 : decode cX5_liar 35 = .ok (.getfield 59, 3) := by decide +kernel
theorem dX5_liar_38 : decode cX5_liar 38 = .ok (.iload_n 1, 1) := by decide +kernel
theorem dX5_liar_39 : decode cX5_liar 39 = .ok (.iload_n 2, 1) := by decide +kernel
theorem dX5_liar_40 : decode cX5_liar 40 = .ok (.invokevirtual 200, 3) := by decide +kernel
theorem dX5_liar_43 : decode cX5_liar 43 = .ok (.iload_n 3, 1) := by decide +kernel
theorem dX5_liar_44 : decode cX5_liar 44 = .ok (.if_icmp .ne 7, 3) := by decide +kernel
theorem dX5_liar_47 : decode cX5_liar 47 = .ok (.iconst 0, 1) := by decide +kernel
theorem dX5_liar_48 : decode cX5_liar 48 = .ok (.goto 4, 3) := by decide +kernel
theorem dX5_liar_51 : decode cX5_liar 51 = .ok (.iconst 1, 1) := by decide +kernel
theorem dX5_liar_52 : decode cX5_liar 52 = .ok (.istore 7, 2) := by decide +kernel
theorem dX5_liar_54 : decode cX5_liar 54 = .ok (.aload_n 0, 1) := by decide +kernel
theorem dX5_liar_55 : decode cX5_liar 55 = .ok (.getfield 12, 3) := by decide +kernel
theorem dX5_liar_58 : decode cX5_liar 58 = .ok (.getfield 59, 3) := by decide +kernel
theorem dX5_liar_61 : decode cX5_liar 61 = .ok (.iload 4, 2) := by decide +kernel
theorem dX5_liar_63 : decode cX5_liar 63 = .ok (.iload 5, 2) := by decide +kernel
theorem dX5_liar_65 : decode cX5_liar 65 = .ok (.invokevirtual 200, 3) := by decide +kernel
theorem dX5_liar_68 : decode cX5_liar 68 = .ok (.iload 6, 2) := by decide +kernel
theorem dX5_liar_70 : decode cX5_liar 70 = .ok (.if_icmp .ne 7, 3) := by decide +kernel
theorem dX5_liar_73 : decode cX5_liar 73 = .ok (.iconst 0, 1) := by decide +kernel
theorem dX5_liar_74 : decode cX5_liar 74 = .ok (.goto 4, 3) := by decide +kernel
theorem dX5_liar_77 : decode cX5_liar 77 = .ok (.iconst 2, 1) := by decide +kernel
theorem dX5_liar_78 : decode cX5_liar 78 = .ok (.istore 8, 2) := by decide +kernel
theorem dX5_liar_80 : decode cX5_liar 80 = .ok (.iload 7, 2) := by decide +kernel
theorem dX5_liar_82 : decode cX5_liar 82 = .ok (.iload 8, 2) := by decide +kernel
theorem dX5_liar_84 : decode cX5_liar 84 = .ok (.ior, 1) := by decide +kernel
theorem dX5_liar_85 : decode cX5_liar 85 = .ok (.ireturn, 1) := by decide +kernel
theorem dX5_other_0 : decode cX5_other 0 = .ok (.iload_n 1, 1) := by decide +kernel
theorem dX5_other_1 : decode cX5_other 1 = .ok (.iconst 1, 1) := by decide +kernel
theorem dX5_other_2 : decode cX5_other 2 = .ok (.iconst 5, 1) := by decide +kernel
theorem dX5_other_3 : decode cX5_other 3 = .ok (.invokestatic 55, 3) := by decide +kernel
theorem dX5_other_6 : decode cX5_other 6 = .ok (.ifCond .eq 19, 3) := by decide +kernel
theorem dX5_other_9 : decode cX5_other 9 = .ok (.aload_n 0, 1) := by decide +kernel
theorem dX5_other_10 : decode cX5_other 10 = .ok (.aload_n 0, 1) := by decide +kernel
theorem dX5_other_11 : decode cX5_other 11 = .ok (.getfield 12, 3) := by decide +kernel
theorem dX5_other_14 : decode cX5_other 14 = .ok (.getfield 101, 3) := by decide +kernel
theorem dX5_other_17 : decode cX5_other 17 = .ok (.ineg, 1) := by decide +kernel
theorem dX5_other_18 : decode cX5_other 18 = .ok (.iload_n 1, 1) := by decide +kernel
theorem dX5_other_19 : decode cX5_other 19 = .ok (.invokevirtual 170, 3) := by decide +kernel
theorem dX5_other_22 : decode cX5_other 22 = .ok (.goto 4, 3) := by decide +kernel
theorem dX5_other_25 : decode cX5_other 25 = .ok (.iconst (-1), 1) := by decide +kernel
theorem dX5_other_26 : decode cX5_other 26 = .ok (.ireturn, 1) := by decide +kernel
theorem dX5_drawn_0 : decode cX5_drawn 0 = .ok (.iload_n 1, 1) := by decide +kernel
theorem dX5_drawn_1 : decode cX5_drawn 1 = .ok (.iconst 1, 1) := by decide +kernel
theorem dX5_drawn_2 : decode cX5_drawn 2 = .ok (.bipush 60, 2) := by decide +kernel
theorem dX5_drawn_4 : decode cX5_drawn 4 = .ok (.invokestatic 55, 3) := by decide +kernel
theorem dX5_drawn_7 : decode cX5_drawn 7 = .ok (.ifCond .ne 5, 3) := by decide +kernel
theorem dX5_drawn_10 : decode cX5_drawn 10 = .ok (.iconst (-1), 1) := by decide +kernel
theorem dX5_drawn_11 : decode cX5_drawn 11 = .ok (.ireturn, 1) := by decide +kernel
theorem dX5_drawn_12 : decode cX5_drawn 12 = .ok (.aload_n 0, 1) := by decide +kernel
theorem dX5_drawn_13 : decode cX5_drawn 13 = .ok (.getfield 12, 3) := by decide +kernel
theorem dX5_drawn_16 : decode cX5_drawn 16 = .ok (.iload_n 1, 1) := by decide +kernel
theorem dX5_drawn_17 : decode cX5_drawn 17 = .ok (.invokevirtual 159, 3) := by decide +kernel
theorem dX5_drawn_20 : decode cX5_drawn 20 = .ok (.ifCond .ne 6, 3) := by decide +kernel
theorem dX5_drawn_23 : decode cX5_drawn 23 = .ok (.bipush (-3), 2) := by decide +kernel
theorem dX5_drawn_25 : decode cX5_drawn 25 = .ok (.ireturn, 1) := by decide +kernel
theorem dX5_drawn_26 : decode cX5_drawn 26 = .ok (.iconst 0, 1) := by decide +kernel
theorem dX5_drawn_27 : decode cX5_drawn 27 = .ok (.istore_n 2, 1) := by decide +kernel
theorem dX5_drawn_28 : decode cX5_drawn 28 = .ok (.iconst 0, 1) := by decide +kernel
theorem dX5_drawn_29 : decode cX5_drawn 29 = .ok (.istore_n 3, 1) := by decide +kernel
theorem dX5_drawn_30 : decode cX5_drawn 30 = .ok (.iload_n 3, 1) := by decide +kernel
theorem dX5_drawn_31 : decode cX5_drawn 31 = .ok (.iload_n 1, 1) := by decide +kernel
theorem dX5_drawn_32 : decode cX5_drawn 32 = .ok (.if_icmp .ge 26, 3) := by decide +kernel
theorem dX5_drawn_35 : decode cX5_drawn 35 = .ok (.iload_n 2, 1) := by decide +kernel
theorem dX5_drawn_36 : decode cX5_drawn 36 = .ok (.aload_n 0, 1) := by decide +kernel
theorem dX5_drawn_37 : decode cX5_drawn 37 = .ok (.getfield 12, 3) := by decide +kernel
theorem dX5_drawn_40 : decode cX5_drawn 40 = .ok (.aload_n 0, 1) := by decide +kernel
theorem dX5_drawn_41 : decode cX5_drawn 41 = .ok (.getfield 12, 3) := by decide +kernel
theorem dX5_drawn_44 : decode cX5_drawn 44 = .ok (.invokevirtual 206, 3) := by decide +kernel
theorem dX5_drawn_47 : decode cX5_drawn 47 = .ok (.invokevirtual 162, 3) := by decide +kernel
theorem dX5_drawn_50 : decode cX5_drawn 50 = .ok (.iadd, 1) := by decide +kernel
theorem dX5_drawn_51 : decode cX5_drawn 51 = .ok (.istore_n 2, 1) := by decide +kernel
theorem dX5_drawn_52 : decode cX5_drawn 52 = .ok (.iinc 3 1, 3) := by decide +kernel
theorem dX5_drawn_55 : decode cX5_drawn 55 = .ok (.goto (-25), 3) := by decide +kernel
theorem dX5_drawn_58 : decode cX5_drawn 58 = .ok (.iload_n 2, 1) := by decide +kernel
theorem dX5_drawn_59 : decode cX5_drawn 59 = .ok (.ireturn, 1) := by decide +kernel
theorem dX5_seed_0 : decode cX5_seed 0 = .ok (.iload_n 1, 1) := by decide +kernel
theorem dX5_seed_1 : decode cX5_seed 1 = .ok (.ifCond .ge 5, 3) := by decide +kernel
theorem dX5_seed_4 : decode cX5_seed 4 = .ok (.iconst (-1), 1) := by decide +kernel
theorem dX5_seed_5 : decode cX5_seed 5 = .ok (.ireturn, 1) := by decide +kernel
theorem dX5_seed_6 : decode cX5_seed 6 = .ok (.aload_n 0, 1) := by decide +kernel
theorem dX5_seed_7 : decode cX5_seed 7 = .ok (.getfield 12, 3) := by decide +kernel
theorem dX5_seed_10 : decode cX5_seed 10 = .ok (.getfield 209, 3) := by decide +kernel
theorem dX5_seed_13 : decode cX5_seed 13 = .ok (.istore_n 2, 1) := by decide +kernel
theorem dX5_seed_14 : decode cX5_seed 14 = .ok (.aload_n 0, 1) := by decide +kernel
theorem dX5_seed_15 : decode cX5_seed 15 = .ok (.getfield 12, 3) := by decide +kernel
theorem dX5_seed_18 : decode cX5_seed 18 = .ok (.iload_n 1, 1) := by decide +kernel
theorem dX5_seed_19 : decode cX5_seed 19 = .ok (.putfield 209, 3) := by decide +kernel
theorem dX5_seed_22 : decode cX5_seed 22 = .ok (.iload_n 2, 1) := by decide +kernel
theorem dX5_seed_23 : decode cX5_seed 23 = .ok (.ireturn, 1) := by decide +kernel
theorem dX5_image_0 : decode cX5_image 0 = .ok (.aload_n 0, 1) := by decide +kernel
theorem dX5_image_1 : decode cX5_image 1 = .ok (.getfield 16, 3) := by decide +kernel
theorem dX5_image_4 : decode cX5_image 4 = .ok (.aload_n 0, 1) := by decide +kernel
theorem dX5_image_5 : decode cX5_image 5 = .ok (.getfield 12, 3) := by decide +kernel
theorem dX5_image_8 : decode cX5_image 8 = .ok (.invokevirtual 212, 3) := by decide +kernel
theorem dX5_image_11 : decode cX5_image 11 = .ok (.aload_n 0, 1) := by decide +kernel
theorem dX5_image_12 : decode cX5_image 12 = .ok (.iconst 1, 1) := by decide +kernel
theorem dX5_image_13 : decode cX5_image 13 = .ok (.putfield 19, 3) := by decide +kernel
theorem dX5_image_16 : decode cX5_image 16 = .ok (.iconst 1, 1) := by decide +kernel
theorem dX5_image_17 : decode cX5_image 17 = .ok (.ireturn, 1) := by decide +kernel
theorem dX5_restore_0 : decode cX5_restore 0 = .ok (.aload_n 0, 1) := by decide +kernel
theorem dX5_restore_1 : decode cX5_restore 1 = .ok (.getfield 19, 3) := by decide +kernel
theorem dX5_restore_4 : decode cX5_restore 4 = .ok (.ifCond .ne 6, 3) := by decide +kernel
theorem dX5_restore_7 : decode cX5_restore 7 = .ok (.bipush (-4), 2) := by decide +kernel
theorem dX5_restore_9 : decode cX5_restore 9 = .ok (.ireturn, 1) := by decide +kernel
theorem dX5_restore_10 : decode cX5_restore 10 = .ok (.aload_n 0, 1) := by decide +kernel
theorem dX5_restore_11 : decode cX5_restore 11 = .ok (.getfield 12, 3) := by decide +kernel
theorem dX5_restore_14 : decode cX5_restore 14 = .ok (.aload_n 0, 1) := by decide +kernel
theorem dX5_restore_15 : decode cX5_restore 15 = .ok (.getfield 16, 3) := by decide +kernel
theorem dX5_restore_18 : decode cX5_restore 18 = .ok (.invokevirtual 212, 3) := by decide +kernel
theorem dX5_restore_21 : decode cX5_restore 21 = .ok (.iconst 1, 1) := by decide +kernel
theorem dX5_restore_22 : decode cX5_restore 22 = .ok (.ireturn, 1) := by decide +kernel
theorem dX5_fit_0 : decode cX5_fit 0 = .ok (.iload 4, 2) := by decide +kernel
theorem dX5_fit_2 : decode cX5_fit 2 = .ok (.iconst 1, 1) := by decide +kernel
theorem dX5_fit_3 : decode cX5_fit 3 = .ok (.bipush 8, 2) := by decide +kernel
theorem dX5_fit_5 : decode cX5_fit 5 = .ok (.invokestatic 55, 3) := by decide +kernel
theorem dX5_fit_8 : decode cX5_fit 8 = .ok (.ifCond .ne 5, 3) := by decide +kernel
theorem dX5_fit_11 : decode cX5_fit 11 = .ok (.iconst (-1), 1) := by decide +kernel
theorem dX5_fit_12 : decode cX5_fit 12 = .ok (.ireturn, 1) := by decide +kernel
theorem dX5_fit_13 : decode cX5_fit 13 = .ok (.aload_n 0, 1) := by decide +kernel
theorem dX5_fit_14 : decode cX5_fit 14 = .ok (.iload_n 1, 1) := by decide +kernel
theorem dX5_fit_15 : decode cX5_fit 15 = .ok (.iload_n 2, 1) := by decide +kernel
theorem dX5_fit_16 : decode cX5_fit 16 = .ok (.iload_n 3, 1) := by decide +kernel
theorem dX5_fit_17 : decode cX5_fit 17 = .ok (.iconst 2, 1) := by decide +kernel
theorem dX5_fit_18 : decode cX5_fit 18 = .ok (.iload 4, 2) := by decide +kernel
theorem dX5_fit_20 : decode cX5_fit 20 = .ok (.imul, 1) := by decide +kernel
theorem dX5_fit_21 : decode cX5_fit 21 = .ok (.invokevirtual 215, 3) := by decide +kernel
theorem dX5_fit_24 : decode cX5_fit 24 = .ok (.istore 5, 2) := by decide +kernel
theorem dX5_fit_26 : decode cX5_fit 26 = .ok (.iload 5, 2) := by decide +kernel
theorem dX5_fit_28 : decode cX5_fit 28 = .ok (.ifCond .eq 6, 3) := by decide +kernel
theorem dX5_fit_31 : decode cX5_fit 31 = .ok (.iload 5, 2) := by decide +kernel
theorem dX5_fit_33 : decode cX5_fit 33 = .ok (.ireturn, 1) := by decide +kernel
theorem dX5_fit_34 : decode cX5_fit 34 = .ok (.aload_n 0, 1) := by decide +kernel
theorem dX5_fit_35 : decode cX5_fit 35 = .ok (.aload_n 0, 1) := by decide +kernel
theorem dX5_fit_36 : decode cX5_fit 36 = .ok (.getfield 50, 3) := by decide +kernel
theorem dX5_fit_39 : decode cX5_fit 39 = .ok (.iload_n 1, 1) := by decide +kernel
theorem dX5_fit_40 : decode cX5_fit 40 = .ok (.aaload, 1) := by decide +kernel
theorem dX5_fit_41 : decode cX5_fit 41 = .ok (.iload_n 3, 1) := by decide +kernel
theorem dX5_fit_42 : decode cX5_fit 42 = .ok (.iload 4, 2) := by decide +kernel
theorem dX5_fit_44 : decode cX5_fit 44 = .ok (.invokevirtual 219, 3) := by decide +kernel
theorem dX5_fit_47 : decode cX5_fit 47 = .ok (.ifCond .ne 6, 3) := by decide +kernel
theorem dX5_fit_50 : decode cX5_fit 50 = .ok (.bipush (-2), 2) := by decide +kernel
theorem dX5_fit_52 : decode cX5_fit 52 = .ok (.ireturn, 1) := by decide +kernel
theorem dX5_fit_53 : decode cX5_fit 53 = .ok (.iconst 0, 1) := by decide +kernel
theorem dX5_fit_54 : decode cX5_fit 54 = .ok (.istore 6, 2) := by decide +kernel
theorem dX5_fit_56 : decode cX5_fit 56 = .ok (.bipush (-9), 2) := by decide +kernel
theorem dX5_fit_58 : decode cX5_fit 58 = .ok (.istore 7, 2) := by decide +kernel
theorem dX5_fit_60 : decode cX5_fit 60 = .ok (.iload 7, 2) := by decide +kernel
theorem dX5_fit_62 : decode cX5_fit 62 = .ok (.bipush 9, 2) := by decide +kernel
theorem dX5_fit_64 : decode cX5_fit 64 = .ok (.if_icmp .gt 39, 3) := by decide +kernel
theorem dX5_fit_67 : decode cX5_fit 67 = .ok (.aload_n 0, 1) := by decide +kernel
theorem dX5_fit_68 : decode cX5_fit 68 = .ok (.iload 7, 2) := by decide +kernel
theorem dX5_fit_70 : decode cX5_fit 70 = .ok (.aload_n 0, 1) := by decide +kernel
theorem dX5_fit_71 : decode cX5_fit 71 = .ok (.getfield 50, 3) := by decide +kernel
theorem dX5_fit_74 : decode cX5_fit 74 = .ok (.iload_n 1, 1) := by decide +kernel
theorem dX5_fit_75 : decode cX5_fit 75 = .ok (.aaload, 1) := by decide +kernel
theorem dX5_fit_76 : decode cX5_fit 76 = .ok (.iload_n 3, 1) := by decide +kernel
theorem dX5_fit_77 : decode cX5_fit 77 = .ok (.iload 4, 2) := by decide +kernel
theorem dX5_fit_79 : decode cX5_fit 79 = .ok (.invokevirtual 223, 3) := by decide +kernel
theorem dX5_fit_82 : decode cX5_fit 82 = .ok (.ifCond .eq 15, 3) := by decide +kernel
theorem dX5_fit_85 : decode cX5_fit 85 = .ok (.iload 6, 2) := by decide +kernel
theorem dX5_fit_87 : decode cX5_fit 87 = .ok (.iconst 1, 1) := by decide +kernel
theorem dX5_fit_88 : decode cX5_fit 88 = .ok (.iload 7, 2) := by decide +kernel
theorem dX5_fit_90 : decode cX5_fit 90 = .ok (.bipush 9, 2) := by decide +kernel
theorem dX5_fit_92 : decode cX5_fit 92 = .ok (.iadd, 1) := by decide +kernel
theorem dX5_fit_93 : decode cX5_fit 93 = .ok (.ishl, 1) := by decide +kernel
theorem dX5_fit_94 : decode cX5_fit 94 = .ok (.ior, 1) := by decide +kernel
theorem dX5_fit_95 : decode cX5_fit 95 = .ok (.istore 6, 2) := by decide +kernel
theorem dX5_fit_97 : decode cX5_fit 97 = .ok (.iinc 7 1, 3) := by decide +kernel
theorem dX5_fit_100 : decode cX5_fit 100 = .ok (.goto (-40), 3) := by decide +kernel
theorem dX5_fit_103 : decode cX5_fit 103 = .ok (.iload 6, 2) := by decide +kernel
theorem dX5_fit_105 : decode cX5_fit 105 = .ok (.ireturn, 1) := by decide +kernel
theorem dX5_film_0 : decode cX5_film 0 = .ok (.aload_n 0, 1) := by decide +kernel
theorem dX5_film_1 : decode cX5_film 1 = .ok (.getfield 12, 3) := by decide +kernel
theorem dX5_film_4 : decode cX5_film 4 = .ok (.getfield 59, 3) := by decide +kernel
theorem dX5_film_7 : decode cX5_film 7 = .ok (.iload_n 1, 1) := by decide +kernel
theorem dX5_film_8 : decode cX5_film 8 = .ok (.invokevirtual 70, 3) := by decide +kernel
theorem dX5_film_11 : decode cX5_film 11 = .ok (.ifCond .ne 5, 3) := by decide +kernel
theorem dX5_film_14 : decode cX5_film 14 = .ok (.iconst (-1), 1) := by decide +kernel
theorem dX5_film_15 : decode cX5_film 15 = .ok (.ireturn, 1) := by decide +kernel
theorem dX5_film_16 : decode cX5_film 16 = .ok (.aload_n 0, 1) := by decide +kernel
theorem dX5_film_17 : decode cX5_film 17 = .ok (.iload_n 2, 1) := by decide +kernel
theorem dX5_film_18 : decode cX5_film 18 = .ok (.iload_n 3, 1) := by decide +kernel
theorem dX5_film_19 : decode cX5_film 19 = .ok (.iload 4, 2) := by decide +kernel
theorem dX5_film_21 : decode cX5_film 21 = .ok (.bipush 19, 2) := by decide +kernel
theorem dX5_film_23 : decode cX5_film 23 = .ok (.invokevirtual 215, 3) := by decide +kernel
theorem dX5_film_26 : decode cX5_film 26 = .ok (.istore 5, 2) := by decide +kernel
theorem dX5_film_28 : decode cX5_film 28 = .ok (.iload 5, 2) := by decide +kernel
theorem dX5_film_30 : decode cX5_film 30 = .ok (.ifCond .eq 6, 3) := by decide +kernel
theorem dX5_film_33 : decode cX5_film 33 = .ok (.iload 5, 2) := by decide +kernel
theorem dX5_film_35 : decode cX5_film 35 = .ok (.ireturn, 1) := by decide +kernel
theorem dX5_film_36 : decode cX5_film 36 = .ok (.iconst 0, 1) := by decide +kernel
theorem dX5_film_37 : decode cX5_film 37 = .ok (.istore 6, 2) := by decide +kernel
theorem dX5_film_39 : decode cX5_film 39 = .ok (.iload 6, 2) := by decide +kernel
theorem dX5_film_41 : decode cX5_film 41 = .ok (.bipush 19, 2) := by decide +kernel
theorem dX5_film_43 : decode cX5_film 43 = .ok (.if_icmp .ge 37, 3) := by decide +kernel
theorem dX5_film_46 : decode cX5_film 46 = .ok (.aload_n 0, 1) := by decide +kernel
theorem dX5_film_47 : decode cX5_film 47 = .ok (.getfield 50, 3) := by decide +kernel
theorem dX5_film_50 : decode cX5_film 50 = .ok (.iload_n 2, 1) := by decide +kernel
theorem dX5_film_51 : decode cX5_film 51 = .ok (.aaload, 1) := by decide +kernel
theorem dX5_film_52 : decode cX5_film 52 = .ok (.iload 4, 2) := by decide +kernel
theorem dX5_film_54 : decode cX5_film 54 = .ok (.iload 6, 2) := by decide +kernel
theorem dX5_film_56 : decode cX5_film 56 = .ok (.iadd, 1) := by decide +kernel
theorem dX5_film_57 : decode cX5_film 57 = .ok (.aload_n 0, 1) := by decide +kernel
theorem dX5_film_58 : decode cX5_film 58 = .ok (.getfield 12, 3) := by decide +kernel
theorem dX5_film_61 : decode cX5_film 61 = .ok (.iload_n 1, 1) := by decide +kernel
theorem dX5_film_62 : decode cX5_film 62 = .ok (.iload 6, 2) := by decide +kernel
theorem dX5_film_64 : decode cX5_film 64 = .ok (.bipush 9, 2) := by decide +kernel
theorem dX5_film_66 : decode cX5_film 66 = .ok (.isub, 1) := by decide +kernel
theorem dX5_film_67 : decode cX5_film 67 = .ok (.invokevirtual 187, 3) := by decide +kernel
theorem dX5_film_70 : decode cX5_film 70 = .ok (.i2l, 1) := by decide +kernel
theorem dX5_film_71 : decode cX5_film 71 = .ok (.invokevirtual 227, 3) := by decide +kernel
theorem dX5_film_74 : decode cX5_film 74 = .ok (.iinc 6 1, 3) := by decide +kernel
theorem dX5_film_77 : decode cX5_film 77 = .ok (.goto (-38), 3) := by decide +kernel
theorem dX5_film_80 : decode cX5_film 80 = .ok (.bipush 19, 2) := by decide +kernel
theorem dX5_film_82 : decode cX5_film 82 = .ok (.ireturn, 1) := by decide +kernel
theorem dX5_sheet_0 : decode cX5_sheet 0 = .ok (.iload_n 1, 1) := by decide +kernel
theorem dX5_sheet_1 : decode cX5_sheet 1 = .ok (.invokestatic 231, 3) := by decide +kernel
theorem dX5_sheet_4 : decode cX5_sheet 4 = .ok (.ifCond .eq 16, 3) := by decide +kernel
theorem dX5_sheet_7 : decode cX5_sheet 7 = .ok (.iload_n 2, 1) := by decide +kernel
theorem dX5_sheet_8 : decode cX5_sheet 8 = .ok (.invokestatic 234, 3) := by decide +kernel
theorem dX5_sheet_11 : decode cX5_sheet 11 = .ok (.ifCond .eq 9, 3) := by decide +kernel
theorem dX5_sheet_14 : decode cX5_sheet 14 = .ok (.iload_n 3, 1) := by decide +kernel
theorem dX5_sheet_15 : decode cX5_sheet 15 = .ok (.bipush 24, 2) := by decide +kernel
theorem dX5_sheet_17 : decode cX5_sheet 17 = .ok (.if_icmp .le 5, 3) := by decide +kernel
theorem dX5_sheet_20 : decode cX5_sheet 20 = .ok (.iconst (-1), 1) := by decide +kernel
theorem dX5_sheet_21 : decode cX5_sheet 21 = .ok (.ireturn, 1) := by decide +kernel
theorem dX5_sheet_22 : decode cX5_sheet 22 = .ok (.iload_n 3, 1) := by decide +kernel
theorem dX5_sheet_23 : decode cX5_sheet 23 = .ok (.ifCond .ge 6, 3) := by decide +kernel
theorem dX5_sheet_26 : decode cX5_sheet 26 = .ok (.bipush (-14), 2) := by decide +kernel
theorem dX5_sheet_28 : decode cX5_sheet 28 = .ok (.ireturn, 1) := by decide +kernel
theorem dX5_sheet_29 : decode cX5_sheet 29 = .ok (.aload_n 0, 1) := by decide +kernel
theorem dX5_sheet_30 : decode cX5_sheet 30 = .ok (.getfield 50, 3) := by decide +kernel
theorem dX5_sheet_33 : decode cX5_sheet 33 = .ok (.iload_n 1, 1) := by decide +kernel
theorem dX5_sheet_34 : decode cX5_sheet 34 = .ok (.aaload, 1) := by decide +kernel
theorem dX5_sheet_35 : decode cX5_sheet 35 = .ok (.iload_n 2, 1) := by decide +kernel
theorem dX5_sheet_36 : decode cX5_sheet 36 = .ok (.iload_n 3, 1) := by decide +kernel
theorem dX5_sheet_37 : decode cX5_sheet 37 = .ok (.invokevirtual 237, 3) := by decide +kernel
theorem dX5_sheet_40 : decode cX5_sheet 40 = .ok (.iload_n 3, 1) := by decide +kernel
theorem dX5_sheet_41 : decode cX5_sheet 41 = .ok (.ireturn, 1) := by decide +kernel
theorem dX5_drop_0 : decode cX5_drop 0 = .ok (.iload_n 1, 1) := by decide +kernel
theorem dX5_drop_1 : decode cX5_drop 1 = .ok (.invokestatic 231, 3) := by decide +kernel
theorem dX5_drop_4 : decode cX5_drop 4 = .ok (.ifCond .ne 5, 3) := by decide +kernel
theorem dX5_drop_7 : decode cX5_drop 7 = .ok (.iconst (-1), 1) := by decide +kernel
theorem dX5_drop_8 : decode cX5_drop 8 = .ok (.ireturn, 1) := by decide +kernel
theorem dX5_drop_9 : decode cX5_drop 9 = .ok (.aload_n 0, 1) := by decide +kernel
theorem dX5_drop_10 : decode cX5_drop 10 = .ok (.getfield 50, 3) := by decide +kernel
theorem dX5_drop_13 : decode cX5_drop 13 = .ok (.iload_n 1, 1) := by decide +kernel
theorem dX5_drop_14 : decode cX5_drop 14 = .ok (.aaload, 1) := by decide +kernel
theorem dX5_drop_15 : decode cX5_drop 15 = .ok (.getfield 241, 3) := by decide +kernel
theorem dX5_drop_18 : decode cX5_drop 18 = .ok (.ifCond .ne 6, 3) := by decide +kernel
theorem dX5_drop_21 : decode cX5_drop 21 = .ok (.bipush (-11), 2) := by decide +kernel
theorem dX5_drop_23 : decode cX5_drop 23 = .ok (.ireturn, 1) := by decide +kernel
theorem dX5_drop_24 : decode cX5_drop 24 = .ok (.aload_n 0, 1) := by decide +kernel
theorem dX5_drop_25 : decode cX5_drop 25 = .ok (.getfield 50, 3) := by decide +kernel
theorem dX5_drop_28 : decode cX5_drop 28 = .ok (.iload_n 1, 1) := by decide +kernel
theorem dX5_drop_29 : decode cX5_drop 29 = .ok (.aaload, 1) := by decide +kernel
theorem dX5_drop_30 : decode cX5_drop 30 = .ok (.iconst 0, 1) := by decide +kernel
theorem dX5_drop_31 : decode cX5_drop 31 = .ok (.putfield 241, 3) := by decide +kernel
theorem dX5_drop_34 : decode cX5_drop 34 = .ok (.aload_n 0, 1) := by decide +kernel
theorem dX5_drop_35 : decode cX5_drop 35 = .ok (.getfield 50, 3) := by decide +kernel
theorem dX5_drop_38 : decode cX5_drop 38 = .ok (.iload_n 1, 1) := by decide +kernel
theorem dX5_drop_39 : decode cX5_drop 39 = .ok (.aaload, 1) := by decide +kernel
theorem dX5_drop_40 : decode cX5_drop 40 = .ok (.getfield 244, 3) := by decide +kernel
theorem dX5_drop_43 : decode cX5_drop 43 = .ok (.ireturn, 1) := by decide +kernel
theorem dX5_item_0 : decode cX5_item 0 = .ok (.aload_n 0, 1) := by decide +kernel
theorem dX5_item_1 : decode cX5_item 1 = .ok (.iload_n 1, 1) := by decide +kernel
theorem dX5_item_2 : decode cX5_item 2 = .ok (.iload_n 2, 1) := by decide +kernel
theorem dX5_item_3 : decode cX5_item 3 = .ok (.iload_n 3, 1) := by decide +kernel
theorem dX5_item_4 : decode cX5_item 4 = .ok (.iconst 1, 1) := by decide +kernel
theorem dX5_item_5 : decode cX5_item 5 = .ok (.invokevirtual 215, 3) := by decide +kernel
theorem dX5_item_8 : decode cX5_item 8 = .ok (.istore 6, 2) := by decide +kernel
theorem dX5_item_10 : decode cX5_item 10 = .ok (.iload 6, 2) := by decide +kernel
theorem dX5_item_12 : decode cX5_item 12 = .ok (.ifCond .eq 6, 3) := by decide +kernel
theorem dX5_item_15 : decode cX5_item 15 = .ok (.iload 6, 2) := by decide +kernel
theorem dX5_item_17 : decode cX5_item 17 = .ok (.ireturn, 1) := by decide +kernel
theorem dX5_item_18 : decode cX5_item 18 = .ok (.aload_n 0, 1) := by decide +kernel
theorem dX5_item_19 : decode cX5_item 19 = .ok (.getfield 50, 3) := by decide +kernel
theorem dX5_item_22 : decode cX5_item 22 = .ok (.iload_n 1, 1) := by decide +kernel
theorem dX5_item_23 : decode cX5_item 23 = .ok (.aaload, 1) := by decide +kernel
theorem dX5_item_24 : decode cX5_item 24 = .ok (.iload_n 3, 1) := by decide +kernel
theorem dX5_item_25 : decode cX5_item 25 = .ok (.lload 4, 2) := by decide +kernel
theorem dX5_item_27 : decode cX5_item 27 = .ok (.invokevirtual 227, 3) := by decide +kernel
theorem dX5_item_30 : decode cX5_item 30 = .ok (.iconst 1, 1) := by decide +kernel
theorem dX5_item_31 : decode cX5_item 31 = .ok (.ireturn, 1) := by decide +kernel
theorem dX5_copy_0 : decode cX5_copy 0 = .ok (.iload_n 1, 1) := by decide +kernel
theorem dX5_copy_1 : decode cX5_copy 1 = .ok (.invokestatic 231, 3) := by decide +kernel
theorem dX5_copy_4 : decode cX5_copy 4 = .ok (.ifCond .eq 10, 3) := by decide +kernel
theorem dX5_copy_7 : decode cX5_copy 7 = .ok (.iload_n 3, 1) := by decide +kernel
theorem dX5_copy_8 : decode cX5_copy 8 = .ok (.invokestatic 231, 3) := by decide +kernel
theorem dX5_copy_11 : decode cX5_copy 11 = .ok (.ifCond .ne 5, 3) := by decide +kernel
theorem dX5_copy_14 : decode cX5_copy 14 = .ok (.iconst (-1), 1) := by decide +kernel
theorem dX5_copy_15 : decode cX5_copy 15 = .ok (.ireturn, 1) := by decide +kernel
theorem dX5_copy_16 : decode cX5_copy 16 = .ok (.aload_n 0, 1) := by decide +kernel
theorem dX5_copy_17 : decode cX5_copy 17 = .ok (.getfield 50, 3) := by decide +kernel
theorem dX5_copy_20 : decode cX5_copy 20 = .ok (.iload_n 1, 1) := by decide +kernel
theorem dX5_copy_21 : decode cX5_copy 21 = .ok (.aaload, 1) := by decide +kernel
theorem dX5_copy_22 : decode cX5_copy 22 = .ok (.getfield 241, 3) := by decide +kernel
theorem dX5_copy_25 : decode cX5_copy 25 = .ok (.ifCond .eq 15, 3) := by decide +kernel
theorem dX5_copy_28 : decode cX5_copy 28 = .ok (.aload_n 0, 1) := by decide +kernel
theorem dX5_copy_29 : decode cX5_copy 29 = .ok (.getfield 50, 3) := by decide +kernel
theorem dX5_copy_32 : decode cX5_copy 32 = .ok (.iload_n 3, 1) := by decide +kernel
theorem dX5_copy_33 : decode cX5_copy 33 = .ok (.aaload, 1) := by decide +kernel
theorem dX5_copy_34 : decode cX5_copy 34 = .ok (.getfield 241, 3) := by decide +kernel
theorem dX5_copy_37 : decode cX5_copy 37 = .ok (.ifCond .ne 6, 3) := by decide +kernel
theorem dX5_copy_40 : decode cX5_copy 40 = .ok (.bipush (-11), 2) := by decide +kernel
theorem dX5_copy_42 : decode cX5_copy 42 = .ok (.ireturn, 1) := by decide +kernel
theorem dX5_copy_43 : decode cX5_copy 43 = .ok (.aload_n 0, 1) := by decide +kernel
theorem dX5_copy_44 : decode cX5_copy 44 = .ok (.getfield 50, 3) := by decide +kernel
theorem dX5_copy_47 : decode cX5_copy 47 = .ok (.iload_n 1, 1) := by decide +kernel
theorem dX5_copy_48 : decode cX5_copy 48 = .ok (.aaload, 1) := by decide +kernel
theorem dX5_copy_49 : decode cX5_copy 49 = .ok (.getfield 245, 3) := by decide +kernel
theorem dX5_copy_52 : decode cX5_copy 52 = .ok (.aload_n 0, 1) := by decide +kernel
theorem dX5_copy_53 : decode cX5_copy 53 = .ok (.getfield 50, 3) := by decide +kernel
theorem dX5_copy_56 : decode cX5_copy 56 = .ok (.iload_n 3, 1) := by decide +kernel
theorem dX5_copy_57 : decode cX5_copy 57 = .ok (.aaload, 1) := by decide +kernel
theorem dX5_copy_58 : decode cX5_copy 58 = .ok (.getfield 245, 3) := by decide +kernel
theorem dX5_copy_61 : decode cX5_copy 61 = .ok (.if_icmp .eq 6, 3) := by decide +kernel
theorem dX5_copy_64 : decode cX5_copy 64 = .ok (.bipush (-12), 2) := by decide +kernel
theorem dX5_copy_66 : decode cX5_copy 66 = .ok (.ireturn, 1) := by decide +kernel
theorem dX5_copy_67 : decode cX5_copy 67 = .ok (.aload_n 0, 1) := by decide +kernel
theorem dX5_copy_68 : decode cX5_copy 68 = .ok (.getfield 50, 3) := by decide +kernel
theorem dX5_copy_71 : decode cX5_copy 71 = .ok (.iload_n 1, 1) := by decide +kernel
theorem dX5_copy_72 : decode cX5_copy 72 = .ok (.aaload, 1) := by decide +kernel
theorem dX5_copy_73 : decode cX5_copy 73 = .ok (.iload_n 2, 1) := by decide +kernel
theorem dX5_copy_74 : decode cX5_copy 74 = .ok (.iload 5, 2) := by decide +kernel
theorem dX5_copy_76 : decode cX5_copy 76 = .ok (.invokevirtual 248, 3) := by decide +kernel
theorem dX5_copy_79 : decode cX5_copy 79 = .ok (.ifCond .eq 19, 3) := by decide +kernel
theorem dX5_copy_82 : decode cX5_copy 82 = .ok (.aload_n 0, 1) := by decide +kernel
theorem dX5_copy_83 : decode cX5_copy 83 = .ok (.getfield 50, 3) := by decide +kernel
theorem dX5_copy_86 : decode cX5_copy 86 = .ok (.iload_n 3, 1) := by decide +kernel
theorem dX5_copy_87 : decode cX5_copy 87 = .ok (.aaload, 1) := by decide +kernel
theorem dX5_copy_88 : decode cX5_copy 88 = .ok (.iload 4, 2) := by decide +kernel
theorem dX5_copy_90 : decode cX5_copy 90 = .ok (.iload 5, 2) := by decide +kernel
theorem dX5_copy_92 : decode cX5_copy 92 = .ok (.invokevirtual 248, 3) := by decide +kernel
theorem dX5_copy_95 : decode cX5_copy 95 = .ok (.ifCond .ne 6, 3) := by decide +kernel
theorem dX5_copy_98 : decode cX5_copy 98 = .ok (.bipush (-13), 2) := by decide +kernel
theorem dX5_copy_100 : decode cX5_copy 100 = .ok (.ireturn, 1) := by decide +kernel
theorem dX5_copy_101 : decode cX5_copy 101 = .ok (.aload_n 0, 1) := by decide +kernel
theorem dX5_copy_102 : decode cX5_copy 102 = .ok (.getfield 50, 3) := by decide +kernel
theorem dX5_copy_105 : decode cX5_copy 105 = .ok (.iload_n 1, 1) := by decide +kernel
theorem dX5_copy_106 : decode cX5_copy 106 = .ok (.aaload, 1) := by decide +kernel
theorem dX5_copy_107 : decode cX5_copy 107 = .ok (.getfield 251, 3) := by decide +kernel
theorem dX5_copy_110 : decode cX5_copy 110 = .ok (.iload_n 2, 1) := by decide +kernel
theorem dX5_copy_111 : decode cX5_copy 111 = .ok (.aload_n 0, 1) := by decide +kernel
theorem dX5_copy_112 : decode cX5_copy 112 = .ok (.getfield 50, 3) := by decide +kernel
theorem dX5_copy_115 : decode cX5_copy 115 = .ok (.iload_n 3, 1) := by decide +kernel
theorem dX5_copy_116 : decode cX5_copy 116 = .ok (.aaload, 1) := by decide +kernel
theorem dX5_copy_117 : decode cX5_copy 117 = .ok (.getfield 251, 3) := by decide +kernel
theorem dX5_copy_120 : decode cX5_copy 120 = .ok (.iload 4, 2) := by decide +kernel
theorem dX5_copy_122 : decode cX5_copy 122 = .ok (.iload 5, 2) := by decide +kernel
theorem dX5_copy_124 : decode cX5_copy 124 = .ok (.invokestatic 255, 3) := by decide +kernel
theorem dX5_copy_127 : decode cX5_copy 127 = .ok (.iload 5, 2) := by decide +kernel
theorem dX5_copy_129 : decode cX5_copy 129 = .ok (.ireturn, 1) := by decide +kernel
theorem dX5_within_0 : decode cX5_within 0 = .ok (.iload_n 0, 1) := by decide +kernel
theorem dX5_within_1 : decode cX5_within 1 = .ok (.iload_n 1, 1) := by decide +kernel
theorem dX5_within_2 : decode cX5_within 2 = .ok (.if_icmp .lt 12, 3) := by decide +kernel
theorem dX5_within_5 : decode cX5_within 5 = .ok (.iload_n 0, 1) := by decide +kernel
theorem dX5_within_6 : decode cX5_within 6 = .ok (.iload_n 2, 1) := by decide +kernel
theorem dX5_within_7 : decode cX5_within 7 = .ok (.if_icmp .gt 7, 3) := by decide +kernel
theorem dX5_within_10 : decode cX5_within 10 = .ok (.iconst 1, 1) := by decide +kernel
theorem dX5_within_11 : decode cX5_within 11 = .ok (.goto 4, 3) := by decide +kernel
theorem dX5_within_14 : decode cX5_within 14 = .ok (.iconst 0, 1) := by decide +kernel
theorem dX5_within_15 : decode cX5_within 15 = .ok (.ireturn, 1) := by decide +kernel
theorem dX5_isMood_0 : decode cX5_isMood 0 = .ok (.iload_n 0, 1) := by decide +kernel
theorem dX5_isMood_1 : decode cX5_isMood 1 = .ok (.bipush (-9), 2) := by decide +kernel
theorem dX5_isMood_3 : decode cX5_isMood 3 = .ok (.bipush 9, 2) := by decide +kernel
theorem dX5_isMood_5 : decode cX5_isMood 5 = .ok (.invokestatic 55, 3) := by decide +kernel
theorem dX5_isMood_8 : decode cX5_isMood 8 = .ok (.ireturn, 1) := by decide +kernel
theorem dX5_isPails_0 : decode cX5_isPails 0 = .ok (.lload_n 0, 1) := by decide +kernel
theorem dX5_isPails_1 : decode cX5_isPails 1 = .ok (.lconst 0, 1) := by decide +kernel
theorem dX5_isPails_2 : decode cX5_isPails 2 = .ok (.lcmp, 1) := by decide +kernel
theorem dX5_isPails_3 : decode cX5_isPails 3 = .ok (.ifCond .lt 15, 3) := by decide +kernel
theorem dX5_isPails_6 : decode cX5_isPails 6 = .ok (.lload_n 0, 1) := by decide +kernel
theorem dX5_isPails_7 : decode cX5_isPails 7 = .ok (.ldc2_w 261, 3) := by decide +kernel
theorem dX5_isPails_10 : decode cX5_isPails 10 = .ok (.lcmp, 1) := by decide +kernel
theorem dX5_isPails_11 : decode cX5_isPails 11 = .ok (.ifCond .gt 7, 3) := by decide +kernel
theorem dX5_isPails_14 : decode cX5_isPails 14 = .ok (.iconst 1, 1) := by decide +kernel
theorem dX5_isPails_15 : decode cX5_isPails 15 = .ok (.goto 4, 3) := by decide +kernel
theorem dX5_isPails_18 : decode cX5_isPails 18 = .ok (.iconst 0, 1) := by decide +kernel
theorem dX5_isPails_19 : decode cX5_isPails 19 = .ok (.ireturn, 1) := by decide +kernel
theorem dX5_isSheet_0 : decode cX5_isSheet 0 = .ok (.iload_n 0, 1) := by decide +kernel
theorem dX5_isSheet_1 : decode cX5_isSheet 1 = .ok (.iconst 0, 1) := by decide +kernel
theorem dX5_isSheet_2 : decode cX5_isSheet 2 = .ok (.iconst 3, 1) := by decide +kernel
theorem dX5_isSheet_3 : decode cX5_isSheet 3 = .ok (.invokestatic 55, 3) := by decide +kernel
theorem dX5_isSheet_6 : decode cX5_isSheet 6 = .ok (.ireturn, 1) := by decide +kernel
theorem dX5_isLane_0 : decode cX5_isLane 0 = .ok (.iload_n 0, 1) := by decide +kernel
theorem dX5_isLane_1 : decode cX5_isLane 1 = .ok (.iconst 0, 1) := by decide +kernel
theorem dX5_isLane_2 : decode cX5_isLane 2 = .ok (.iconst 2, 1) := by decide +kernel
theorem dX5_isLane_3 : decode cX5_isLane 3 = .ok (.invokestatic 55, 3) := by decide +kernel
theorem dX5_isLane_6 : decode cX5_isLane 6 = .ok (.ireturn, 1) := by decide +kernel
theorem dX5_asMood_0 : decode cX5_asMood 0 = .ok (.bipush (-9), 2) := by decide +kernel
theorem dX5_asMood_2 : decode cX5_asMood 2 = .ok (.bipush 9, 2) := by decide +kernel
theorem dX5_asMood_4 : decode cX5_asMood 4 = .ok (.iload_n 0, 1) := by decide +kernel
theorem dX5_asMood_5 : decode cX5_asMood 5 = .ok (.invokestatic 263, 3) := by decide +kernel
theorem dX5_asMood_8 : decode cX5_asMood 8 = .ok (.invokestatic 268, 3) := by decide +kernel
theorem dX5_asMood_11 : decode cX5_asMood 11 = .ok (.ireturn, 1) := by decide +kernel
theorem dX5_waned_0 : decode cX5_waned 0 = .ok (.iload_n 0, 1) := by decide +kernel
theorem dX5_waned_1 : decode cX5_waned 1 = .ok (.iload_n 0, 1) := by decide +kernel
theorem dX5_waned_2 : decode cX5_waned 2 = .ok (.iconst 0, 1) := by decide +kernel
theorem dX5_waned_3 : decode cX5_waned 3 = .ok (.invokestatic 271, 3) := by decide +kernel
theorem dX5_waned_6 : decode cX5_waned 6 = .ok (.isub, 1) := by decide +kernel
theorem dX5_waned_7 : decode cX5_waned 7 = .ok (.ireturn, 1) := by decide +kernel
theorem dX5_rained_0 : decode cX5_rained 0 = .ok (.sipush 999, 3) := by decide +kernel
theorem dX5_rained_3 : decode cX5_rained 3 = .ok (.iload_n 0, 1) := by decide +kernel
theorem dX5_rained_4 : decode cX5_rained 4 = .ok (.iload_n 1, 1) := by decide +kernel
theorem dX5_rained_5 : decode cX5_rained 5 = .ok (.iadd, 1) := by decide +kernel
theorem dX5_rained_6 : decode cX5_rained 6 = .ok (.invokestatic 263, 3) := by decide +kernel
theorem dX5_rained_9 : decode cX5_rained 9 = .ok (.ireturn, 1) := by decide +kernel
theorem dX5_byteOf_0 : decode cX5_byteOf 0 = .ok (.lload_n 0, 1) := by decide +kernel
theorem dX5_byteOf_1 : decode cX5_byteOf 1 = .ok (.bipush 8, 2) := by decide +kernel
theorem dX5_byteOf_3 : decode cX5_byteOf 3 = .ok (.iload_n 2, 1) := by decide +kernel
theorem dX5_byteOf_4 : decode cX5_byteOf 4 = .ok (.imul, 1) := by decide +kernel
theorem dX5_byteOf_5 : decode cX5_byteOf 5 = .ok (.lshr, 1) := by decide +kernel
theorem dX5_byteOf_6 : decode cX5_byteOf 6 = .ok (.l2i, 1) := by decide +kernel
theorem dX5_byteOf_7 : decode cX5_byteOf 7 = .ok (.sipush 255, 3) := by decide +kernel
theorem dX5_byteOf_10 : decode cX5_byteOf 10 = .ok (.iand, 1) := by decide +kernel
theorem dX5_byteOf_11 : decode cX5_byteOf 11 = .ok (.ireturn, 1) := by decide +kernel
theorem dX5_areSigns_0 : decode cX5_areSigns 0 = .ok (.iconst 0, 1) := by decide +kernel
theorem dX5_areSigns_1 : decode cX5_areSigns 1 = .ok (.istore_n 3, 1) := by decide +kernel
theorem dX5_areSigns_2 : decode cX5_areSigns 2 = .ok (.iload_n 3, 1) := by decide +kernel
theorem dX5_areSigns_3 : decode cX5_areSigns 3 = .ok (.iload_n 2, 1) := by decide +kernel
theorem dX5_areSigns_4 : decode cX5_areSigns 4 = .ok (.if_icmp .ge 26, 3) := by decide +kernel
theorem dX5_areSigns_7 : decode cX5_areSigns 7 = .ok (.lload_n 0, 1) := by decide +kernel
theorem dX5_areSigns_8 : decode cX5_areSigns 8 = .ok (.iload_n 3, 1) := by decide +kernel
theorem dX5_areSigns_9 : decode cX5_areSigns 9 = .ok (.invokestatic 132, 3) := by decide +kernel
theorem dX5_areSigns_12 : decode cX5_areSigns 12 = .ok (.bipush 32, 2) := by decide +kernel
theorem dX5_areSigns_14 : decode cX5_areSigns 14 = .ok (.bipush 126, 2) := by decide +kernel
theorem dX5_areSigns_16 : decode cX5_areSigns 16 = .ok (.invokestatic 55, 3) := by decide +kernel
theorem dX5_areSigns_19 : decode cX5_areSigns 19 = .ok (.ifCond .ne 5, 3) := by decide +kernel
theorem dX5_areSigns_22 : decode cX5_areSigns 22 = .ok (.iconst 0, 1) := by decide +kernel
theorem dX5_areSigns_23 : decode cX5_areSigns 23 = .ok (.ireturn, 1) := by decide +kernel
theorem dX5_areSigns_24 : decode cX5_areSigns 24 = .ok (.iinc 3 1, 3) := by decide +kernel
theorem dX5_areSigns_27 : decode cX5_areSigns 27 = .ok (.goto (-25), 3) := by decide +kernel
theorem dX5_areSigns_30 : decode cX5_areSigns 30 = .ok (.iconst 1, 1) := by decide +kernel
theorem dX5_areSigns_31 : decode cX5_areSigns 31 = .ok (.ireturn, 1) := by decide +kernel
theorem dX5_isTale_0 : decode cX5_isTale 0 = .ok (.aload_n 0, 1) := by decide +kernel
theorem dX5_isTale_1 : decode cX5_isTale 1 = .ok (.getfield 12, 3) := by decide +kernel
theorem dX5_isTale_4 : decode cX5_isTale 4 = .ok (.getfield 59, 3) := by decide +kernel
theorem dX5_isTale_7 : decode cX5_isTale 7 = .ok (.iload_n 1, 1) := by decide +kernel
theorem dX5_isTale_8 : decode cX5_isTale 8 = .ok (.invokevirtual 70, 3) := by decide +kernel
theorem dX5_isTale_11 : decode cX5_isTale 11 = .ok (.ifCond .eq 22, 3) := by decide +kernel
theorem dX5_isTale_14 : decode cX5_isTale 14 = .ok (.iload_n 2, 1) := by decide +kernel
theorem dX5_isTale_15 : decode cX5_isTale 15 = .ok (.invokestatic 98, 3) := by decide +kernel
theorem dX5_isTale_18 : decode cX5_isTale 18 = .ok (.ifCond .eq 15, 3) := by decide +kernel
theorem dX5_isTale_21 : decode cX5_isTale 21 = .ok (.iload_n 3, 1) := by decide +kernel
theorem dX5_isTale_22 : decode cX5_isTale 22 = .ok (.i2l, 1) := by decide +kernel
theorem dX5_isTale_23 : decode cX5_isTale 23 = .ok (.invokestatic 190, 3) := by decide +kernel
theorem dX5_isTale_26 : decode cX5_isTale 26 = .ok (.ifCond .eq 7, 3) := by decide +kernel
theorem dX5_isTale_29 : decode cX5_isTale 29 = .ok (.iconst 1, 1) := by decide +kernel
theorem dX5_isTale_30 : decode cX5_isTale 30 = .ok (.goto 4, 3) := by decide +kernel
theorem dX5_isTale_33 : decode cX5_isTale 33 = .ok (.iconst 0, 1) := by decide +kernel
theorem dX5_isTale_34 : decode cX5_isTale 34 = .ok (.ireturn, 1) := by decide +kernel
theorem dX5_mostFrom_0 : decode cX5_mostFrom 0 = .ok (.aload_n 0, 1) := by decide +kernel
theorem dX5_mostFrom_1 : decode cX5_mostFrom 1 = .ok (.getfield 44, 3) := by decide +kernel
theorem dX5_mostFrom_4 : decode cX5_mostFrom 4 = .ok (.aload_n 0, 1) := by decide +kernel
theorem dX5_mostFrom_5 : decode cX5_mostFrom 5 = .ok (.getfield 12, 3) := by decide +kernel
theorem dX5_mostFrom_8 : decode cX5_mostFrom 8 = .ok (.invokevirtual 177, 3) := by decide +kernel
theorem dX5_mostFrom_11 : decode cX5_mostFrom 11 = .ok (.aload_n 0, 1) := by decide +kernel
theorem dX5_mostFrom_12 : decode cX5_mostFrom 12 = .ok (.getfield 44, 3) := by decide +kernel
theorem dX5_mostFrom_15 : decode cX5_mostFrom 15 = .ok (.iload_n 2, 1) := by decide +kernel
theorem dX5_mostFrom_16 : decode cX5_mostFrom 16 = .ok (.iload_n 1, 1) := by decide +kernel
theorem dX5_mostFrom_17 : decode cX5_mostFrom 17 = .ok (.invokevirtual 181, 3) := by decide +kernel
theorem dX5_mostFrom_20 : decode cX5_mostFrom 20 = .ok (.ireturn, 1) := by decide +kernel
theorem dX5_mostInPeace_0 : decode cX5_mostInPeace 0 = .ok (.aload_n 0, 1) := by decide +kernel
theorem dX5_mostInPeace_1 : decode cX5_mostInPeace 1 = .ok (.getfield 44, 3) := by decide +kernel
theorem dX5_mostInPeace_4 : decode cX5_mostInPeace 4 = .ok (.getfield 276, 3) := by decide +kernel
theorem dX5_mostInPeace_7 : decode cX5_mostInPeace 7 = .ok (.iload_n 1, 1) := by decide +kernel
theorem dX5_mostInPeace_8 : decode cX5_mostInPeace 8 = .ok (.iload_n 2, 1) := by decide +kernel
theorem dX5_mostInPeace_9 : decode cX5_mostInPeace 9 = .ok (.iconst 0, 1) := by decide +kernel
theorem dX5_mostInPeace_10 : decode cX5_mostInPeace 10 = .ok (.invokevirtual 94, 3) := by decide +kernel
theorem dX5_mostInPeace_13 : decode cX5_mostInPeace 13 = .ok (.aload_n 0, 1) := by decide +kernel
theorem dX5_mostInPeace_14 : decode cX5_mostInPeace 14 = .ok (.getfield 44, 3) := by decide +kernel
theorem dX5_mostInPeace_17 : decode cX5_mostInPeace 17 = .ok (.iconst 4, 1) := by decide +kernel
theorem dX5_mostInPeace_18 : decode cX5_mostInPeace 18 = .ok (.aload_n 0, 1) := by decide +kernel
theorem dX5_mostInPeace_19 : decode cX5_mostInPeace 19 = .ok (.getfield 12, 3) := by decide +kernel
theorem dX5_mostInPeace_22 : decode cX5_mostInPeace 22 = .ok (.getfield 101, 3) := by decide +kernel
theorem dX5_mostInPeace_25 : decode cX5_mostInPeace 25 = .ok (.invokevirtual 181, 3) := by decide +kernel
theorem dX5_mostInPeace_28 : decode cX5_mostInPeace 28 = .ok (.istore_n 3, 1) := by decide +kernel
theorem dX5_mostInPeace_29 : decode cX5_mostInPeace 29 = .ok (.aload_n 0, 1) := by decide +kernel
theorem dX5_mostInPeace_30 : decode cX5_mostInPeace 30 = .ok (.getfield 44, 3) := by decide +kernel
theorem dX5_mostInPeace_33 : decode cX5_mostInPeace 33 = .ok (.getfield 276, 3) := by decide +kernel
theorem dX5_mostInPeace_36 : decode cX5_mostInPeace 36 = .ok (.iload_n 1, 1) := by decide +kernel
theorem dX5_mostInPeace_37 : decode cX5_mostInPeace 37 = .ok (.iload_n 2, 1) := by decide +kernel
theorem dX5_mostInPeace_38 : decode cX5_mostInPeace 38 = .ok (.iconst 1, 1) := by decide +kernel
theorem dX5_mostInPeace_39 : decode cX5_mostInPeace 39 = .ok (.invokevirtual 94, 3) := by decide +kernel
theorem dX5_mostInPeace_42 : decode cX5_mostInPeace 42 = .ok (.iload_n 3, 1) := by decide +kernel
theorem dX5_mostInPeace_43 : decode cX5_mostInPeace 43 = .ok (.ireturn, 1) := by decide +kernel
theorem dX5_refusal_0 : decode cX5_refusal 0 = .ok (.iload_n 1, 1) := by decide +kernel
theorem dX5_refusal_1 : decode cX5_refusal 1 = .ok (.invokestatic 231, 3) := by decide +kernel
theorem dX5_refusal_4 : decode cX5_refusal 4 = .ok (.ifCond .eq 10, 3) := by decide +kernel
theorem dX5_refusal_7 : decode cX5_refusal 7 = .ok (.iload_n 2, 1) := by decide +kernel
theorem dX5_refusal_8 : decode cX5_refusal 8 = .ok (.invokestatic 234, 3) := by decide +kernel
theorem dX5_refusal_11 : decode cX5_refusal 11 = .ok (.ifCond .ne 5, 3) := by decide +kernel
theorem dX5_refusal_14 : decode cX5_refusal 14 = .ok (.iconst (-1), 1) := by decide +kernel
theorem dX5_refusal_15 : decode cX5_refusal 15 = .ok (.ireturn, 1) := by decide +kernel
theorem dX5_refusal_16 : decode cX5_refusal 16 = .ok (.aload_n 0, 1) := by decide +kernel
theorem dX5_refusal_17 : decode cX5_refusal 17 = .ok (.getfield 50, 3) := by decide +kernel
theorem dX5_refusal_20 : decode cX5_refusal 20 = .ok (.iload_n 1, 1) := by decide +kernel
theorem dX5_refusal_21 : decode cX5_refusal 21 = .ok (.aaload, 1) := by decide +kernel
theorem dX5_refusal_22 : decode cX5_refusal 22 = .ok (.getfield 241, 3) := by decide +kernel
theorem dX5_refusal_25 : decode cX5_refusal 25 = .ok (.ifCond .ne 6, 3) := by decide +kernel
theorem dX5_refusal_28 : decode cX5_refusal 28 = .ok (.bipush (-11), 2) := by decide +kernel
theorem dX5_refusal_30 : decode cX5_refusal 30 = .ok (.ireturn, 1) := by decide +kernel
theorem dX5_refusal_31 : decode cX5_refusal 31 = .ok (.aload_n 0, 1) := by decide +kernel
theorem dX5_refusal_32 : decode cX5_refusal 32 = .ok (.getfield 50, 3) := by decide +kernel
theorem dX5_refusal_35 : decode cX5_refusal 35 = .ok (.iload_n 1, 1) := by decide +kernel
theorem dX5_refusal_36 : decode cX5_refusal 36 = .ok (.aaload, 1) := by decide +kernel
theorem dX5_refusal_37 : decode cX5_refusal 37 = .ok (.getfield 245, 3) := by decide +kernel
theorem dX5_refusal_40 : decode cX5_refusal 40 = .ok (.iload_n 2, 1) := by decide +kernel
theorem dX5_refusal_41 : decode cX5_refusal 41 = .ok (.if_icmp .eq 6, 3) := by decide +kernel
theorem dX5_refusal_44 : decode cX5_refusal 44 = .ok (.bipush (-12), 2) := by decide +kernel
theorem dX5_refusal_46 : decode cX5_refusal 46 = .ok (.ireturn, 1) := by decide +kernel
theorem dX5_refusal_47 : decode cX5_refusal 47 = .ok (.aload_n 0, 1) := by decide +kernel
theorem dX5_refusal_48 : decode cX5_refusal 48 = .ok (.getfield 50, 3) := by decide +kernel
theorem dX5_refusal_51 : decode cX5_refusal 51 = .ok (.iload_n 1, 1) := by decide +kernel
theorem dX5_refusal_52 : decode cX5_refusal 52 = .ok (.aaload, 1) := by decide +kernel
theorem dX5_refusal_53 : decode cX5_refusal 53 = .ok (.iload_n 3, 1) := by decide +kernel
theorem dX5_refusal_54 : decode cX5_refusal 54 = .ok (.iload 4, 2) := by decide +kernel
theorem dX5_refusal_56 : decode cX5_refusal 56 = .ok (.invokevirtual 248, 3) := by decide +kernel
theorem dX5_refusal_59 : decode cX5_refusal 59 = .ok (.ifCond .eq 7, 3) := by decide +kernel
theorem dX5_refusal_62 : decode cX5_refusal 62 = .ok (.iconst 0, 1) := by decide +kernel
theorem dX5_refusal_63 : decode cX5_refusal 63 = .ok (.goto 5, 3) := by decide +kernel
theorem dX5_refusal_66 : decode cX5_refusal 66 = .ok (.bipush (-13), 2) := by decide +kernel
theorem dX5_refusal_68 : decode cX5_refusal 68 = .ok (.ireturn, 1) := by decide +kernel
theorem dX5_areDrawings_0 : decode cX5_areDrawings 0 = .ok (.iconst 0, 1) := by decide +kernel
theorem dX5_areDrawings_1 : decode cX5_areDrawings 1 = .ok (.istore 4, 2) := by decide +kernel
theorem dX5_areDrawings_3 : decode cX5_areDrawings 3 = .ok (.iload 4, 2) := by decide +kernel
theorem dX5_areDrawings_5 : decode cX5_areDrawings 5 = .ok (.iload_n 3, 1) := by decide +kernel
theorem dX5_areDrawings_6 : decode cX5_areDrawings 6 = .ok (.if_icmp .ge 67, 3) := by decide +kernel
theorem dX5_areDrawings_9 : decode cX5_areDrawings 9 = .ok (.aload_n 1, 1) := by decide +kernel
theorem dX5_areDrawings_10 : decode cX5_areDrawings 10 = .ok (.getfield 251, 3) := by decide +kernel
theorem dX5_areDrawings_13 : decode cX5_areDrawings 13 = .ok (.iload_n 2, 1) := by decide +kernel
theorem dX5_areDrawings_14 : decode cX5_areDrawings 14 = .ok (.iconst 2, 1) := by decide +kernel
theorem dX5_areDrawings_15 : decode cX5_areDrawings 15 = .ok (.iload 4, 2) := by decide +kernel
theorem dX5_areDrawings_17 : decode cX5_areDrawings 17 = .ok (.imul, 1) := by decide +kernel
theorem dX5_areDrawings_18 : decode cX5_areDrawings 18 = .ok (.iadd, 1) := by decide +kernel
theorem dX5_areDrawings_19 : decode cX5_areDrawings 19 = .ok (.laload, 1) := by decide +kernel
theorem dX5_areDrawings_20 : decode cX5_areDrawings 20 = .ok (.lstore 5, 2) := by decide +kernel
theorem dX5_areDrawings_22 : decode cX5_areDrawings 22 = .ok (.lload 5, 2) := by decide +kernel
theorem dX5_areDrawings_24 : decode cX5_areDrawings 24 = .ok (.lconst 0, 1) := by decide +kernel
theorem dX5_areDrawings_25 : decode cX5_areDrawings 25 = .ok (.lcmp, 1) := by decide +kernel
theorem dX5_areDrawings_26 : decode cX5_areDrawings 26 = .ok (.ifCond .lt 39, 3) := by decide +kernel
theorem dX5_areDrawings_29 : decode cX5_areDrawings 29 = .ok (.lload 5, 2) := by decide +kernel
theorem dX5_areDrawings_31 : decode cX5_areDrawings 31 = .ok (.aload_n 0, 1) := by decide +kernel
theorem dX5_areDrawings_32 : decode cX5_areDrawings 32 = .ok (.getfield 12, 3) := by decide +kernel
theorem dX5_areDrawings_35 : decode cX5_areDrawings 35 = .ok (.getfield 59, 3) := by decide +kernel
theorem dX5_areDrawings_38 : decode cX5_areDrawings 38 = .ok (.getfield 62, 3) := by decide +kernel
theorem dX5_areDrawings_41 : decode cX5_areDrawings 41 = .ok (.i2l, 1) := by decide +kernel
theorem dX5_areDrawings_42 : decode cX5_areDrawings 42 = .ok (.lcmp, 1) := by decide +kernel
theorem dX5_areDrawings_43 : decode cX5_areDrawings 43 = .ok (.ifCond .ge 22, 3) := by decide +kernel
theorem dX5_areDrawings_46 : decode cX5_areDrawings 46 = .ok (.aload_n 1, 1) := by decide +kernel
theorem dX5_areDrawings_47 : decode cX5_areDrawings 47 = .ok (.getfield 251, 3) := by decide +kernel
theorem dX5_areDrawings_50 : decode cX5_areDrawings 50 = .ok (.iload_n 2, 1) := by decide +kernel
theorem dX5_areDrawings_51 : decode cX5_areDrawings 51 = .ok (.iconst 2, 1) := by decide +kernel
theorem dX5_areDrawings_52 : decode cX5_areDrawings 52 = .ok (.iload 4, 2) := by decide +kernel
theorem dX5_areDrawings_54 : decode cX5_areDrawings 54 = .ok (.imul, 1) := by decide +kernel
theorem dX5_areDrawings_55 : decode cX5_areDrawings 55 = .ok (.iadd, 1) := by decide +kernel
theorem dX5_areDrawings_56 : decode cX5_areDrawings 56 = .ok (.iconst 1, 1) := by decide +kernel
theorem dX5_areDrawings_57 : decode cX5_areDrawings 57 = .ok (.iadd, 1) := by decide +kernel
theorem dX5_areDrawings_58 : decode cX5_areDrawings 58 = .ok (.laload, 1) := by decide +kernel
theorem dX5_areDrawings_59 : decode cX5_areDrawings 59 = .ok (.invokestatic 190, 3) := by decide +kernel
theorem dX5_areDrawings_62 : decode cX5_areDrawings 62 = .ok (.ifCond .ne 5, 3) := by decide +kernel
theorem dX5_areDrawings_65 : decode cX5_areDrawings 65 = .ok (.iconst 0, 1) := by decide +kernel
theorem dX5_areDrawings_66 : decode cX5_areDrawings 66 = .ok (.ireturn, 1) := by decide +kernel
theorem dX5_areDrawings_67 : decode cX5_areDrawings 67 = .ok (.iinc 4 1, 3) := by decide +kernel
theorem dX5_areDrawings_70 : decode cX5_areDrawings 70 = .ok (.goto (-67), 3) := by decide +kernel
theorem dX5_areDrawings_73 : decode cX5_areDrawings 73 = .ok (.iconst 1, 1) := by decide +kernel
theorem dX5_areDrawings_74 : decode cX5_areDrawings 74 = .ok (.ireturn, 1) := by decide +kernel
theorem dX5_fitsFrom_0 : decode cX5_fitsFrom 0 = .ok (.iload_n 1, 1) := by decide +kernel
theorem dX5_fitsFrom_1 : decode cX5_fitsFrom 1 = .ok (.istore 5, 2) := by decide +kernel
theorem dX5_fitsFrom_3 : decode cX5_fitsFrom 3 = .ok (.iconst 0, 1) := by decide +kernel
theorem dX5_fitsFrom_4 : decode cX5_fitsFrom 4 = .ok (.istore 6, 2) := by decide +kernel
theorem dX5_fitsFrom_6 : decode cX5_fitsFrom 6 = .ok (.iload 6, 2) := by decide +kernel
theorem dX5_fitsFrom_8 : decode cX5_fitsFrom 8 = .ok (.iload 4, 2) := by decide +kernel
theorem dX5_fitsFrom_10 : decode cX5_fitsFrom 10 = .ok (.if_icmp .ge 76, 3) := by decide +kernel
theorem dX5_fitsFrom_13 : decode cX5_fitsFrom 13 = .ok (.aload_n 2, 1) := by decide +kernel
theorem dX5_fitsFrom_14 : decode cX5_fitsFrom 14 = .ok (.getfield 251, 3) := by decide +kernel
theorem dX5_fitsFrom_17 : decode cX5_fitsFrom 17 = .ok (.iload_n 3, 1) := by decide +kernel
theorem dX5_fitsFrom_18 : decode cX5_fitsFrom 18 = .ok (.iconst 2, 1) := by decide +kernel
theorem dX5_fitsFrom_19 : decode cX5_fitsFrom 19 = .ok (.iload 6, 2) := by decide +kernel
theorem dX5_fitsFrom_21 : decode cX5_fitsFrom 21 = .ok (.imul, 1) := by decide +kernel
theorem dX5_fitsFrom_22 : decode cX5_fitsFrom 22 = .ok (.iadd, 1) := by decide +kernel
theorem dX5_fitsFrom_23 : decode cX5_fitsFrom 23 = .ok (.laload, 1) := by decide +kernel
theorem dX5_fitsFrom_24 : decode cX5_fitsFrom 24 = .ok (.l2i, 1) := by decide +kernel
theorem dX5_fitsFrom_25 : decode cX5_fitsFrom 25 = .ok (.istore 7, 2) := by decide +kernel
theorem dX5_fitsFrom_27 : decode cX5_fitsFrom 27 = .ok (.aload_n 0, 1) := by decide +kernel
theorem dX5_fitsFrom_28 : decode cX5_fitsFrom 28 = .ok (.getfield 12, 3) := by decide +kernel
theorem dX5_fitsFrom_31 : decode cX5_fitsFrom 31 = .ok (.getfield 59, 3) := by decide +kernel
theorem dX5_fitsFrom_34 : decode cX5_fitsFrom 34 = .ok (.iload 7, 2) := by decide +kernel
theorem dX5_fitsFrom_36 : decode cX5_fitsFrom 36 = .ok (.iload 5, 2) := by decide +kernel
theorem dX5_fitsFrom_38 : decode cX5_fitsFrom 38 = .ok (.invokevirtual 200, 3) := by decide +kernel
theorem dX5_fitsFrom_41 : decode cX5_fitsFrom 41 = .ok (.i2l, 1) := by decide +kernel
theorem dX5_fitsFrom_42 : decode cX5_fitsFrom 42 = .ok (.aload_n 2, 1) := by decide +kernel
theorem dX5_fitsFrom_43 : decode cX5_fitsFrom 43 = .ok (.getfield 251, 3) := by decide +kernel
theorem dX5_fitsFrom_46 : decode cX5_fitsFrom 46 = .ok (.iload_n 3, 1) := by decide +kernel
theorem dX5_fitsFrom_47 : decode cX5_fitsFrom 47 = .ok (.iconst 2, 1) := by decide +kernel
theorem dX5_fitsFrom_48 : decode cX5_fitsFrom 48 = .ok (.iload 6, 2) := by decide +kernel
theorem dX5_fitsFrom_50 : decode cX5_fitsFrom 50 = .ok (.imul, 1) := by decide +kernel
theorem dX5_fitsFrom_51 : decode cX5_fitsFrom 51 = .ok (.iadd, 1) := by decide +kernel
theorem dX5_fitsFrom_52 : decode cX5_fitsFrom 52 = .ok (.iconst 1, 1) := by decide +kernel
theorem dX5_fitsFrom_53 : decode cX5_fitsFrom 53 = .ok (.iadd, 1) := by decide +kernel
theorem dX5_fitsFrom_54 : decode cX5_fitsFrom 54 = .ok (.laload, 1) := by decide +kernel
theorem dX5_fitsFrom_55 : decode cX5_fitsFrom 55 = .ok (.lcmp, 1) := by decide +kernel
theorem dX5_fitsFrom_56 : decode cX5_fitsFrom 56 = .ok (.ifCond .eq 5, 3) := by decide +kernel
theorem dX5_fitsFrom_59 : decode cX5_fitsFrom 59 = .ok (.iconst 0, 1) := by decide +kernel
theorem dX5_fitsFrom_60 : decode cX5_fitsFrom 60 = .ok (.ireturn, 1) := by decide +kernel
theorem dX5_fitsFrom_61 : decode cX5_fitsFrom 61 = .ok (.aload_n 0, 1) := by decide +kernel
theorem dX5_fitsFrom_62 : decode cX5_fitsFrom 62 = .ok (.getfield 12, 3) := by decide +kernel
theorem dX5_fitsFrom_65 : decode cX5_fitsFrom 65 = .ok (.getfield 59, 3) := by decide +kernel
theorem dX5_fitsFrom_68 : decode cX5_fitsFrom 68 = .ok (.iload 7, 2) := by decide +kernel
theorem dX5_fitsFrom_70 : decode cX5_fitsFrom 70 = .ok (.iload 5, 2) := by decide +kernel
theorem dX5_fitsFrom_72 : decode cX5_fitsFrom 72 = .ok (.invokevirtual 277, 3) := by decide +kernel
theorem dX5_fitsFrom_75 : decode cX5_fitsFrom 75 = .ok (.invokestatic 197, 3) := by decide +kernel
theorem dX5_fitsFrom_78 : decode cX5_fitsFrom 78 = .ok (.istore 5, 2) := by decide +kernel
theorem dX5_fitsFrom_80 : decode cX5_fitsFrom 80 = .ok (.iinc 6 1, 3) := by decide +kernel
theorem dX5_fitsFrom_83 : decode cX5_fitsFrom 83 = .ok (.goto (-77), 3) := by decide +kernel
theorem dX5_fitsFrom_86 : decode cX5_fitsFrom 86 = .ok (.iconst 1, 1) := by decide +kernel
theorem dX5_fitsFrom_87 : decode cX5_fitsFrom 87 = .ok (.ireturn, 1) := by decide +kernel
theorem dJ6_compare_7cf53_0 : decode cJ6_compare_7cf53 0 = .ok (.iload_n 0, 1) := by decide +kernel
theorem dJ6_compare_7cf53_1 : decode cJ6_compare_7cf53 1 = .ok (.iload_n 1, 1) := by decide +kernel
theorem dJ6_compare_7cf53_2 : decode cJ6_compare_7cf53 2 = .ok (.if_icmp .ge 7, 3) := by decide +kernel
theorem dJ6_compare_7cf53_5 : decode cJ6_compare_7cf53 5 = .ok (.iconst (-1), 1) := by decide +kernel
theorem dJ6_compare_7cf53_6 : decode cJ6_compare_7cf53 6 = .ok (.goto 13, 3) := by decide +kernel
theorem dJ6_compare_7cf53_9 : decode cJ6_compare_7cf53 9 = .ok (.iload_n 0, 1) := by decide +kernel
theorem dJ6_compare_7cf53_10 : decode cJ6_compare_7cf53 10 = .ok (.iload_n 1, 1) := by decide +kernel
theorem dJ6_compare_7cf53_11 : decode cJ6_compare_7cf53 11 = .ok (.if_icmp .ne 7, 3) := by decide +kernel
theorem dJ6_compare_7cf53_14 : decode cJ6_compare_7cf53 14 = .ok (.iconst 0, 1) := by decide +kernel
theorem dJ6_compare_7cf53_15 : decode cJ6_compare_7cf53 15 = .ok (.goto 4, 3) := by decide +kernel
theorem dJ6_compare_7cf53_18 : decode cJ6_compare_7cf53 18 = .ok (.iconst 1, 1) := by decide +kernel
theorem dJ6_compare_7cf53_19 : decode cJ6_compare_7cf53 19 = .ok (.ireturn, 1) := by decide +kernel
theorem dJ9_max_7cf53_0 : decode cJ9_max_7cf53 0 = .ok (.iload_n 0, 1) := by decide +kernel
theorem dJ9_max_7cf53_1 : decode cJ9_max_7cf53 1 = .ok (.iload_n 1, 1) := by decide +kernel
theorem dJ9_max_7cf53_2 : decode cJ9_max_7cf53 2 = .ok (.if_icmp .lt 7, 3) := by decide +kernel
theorem dJ9_max_7cf53_5 : decode cJ9_max_7cf53 5 = .ok (.iload_n 0, 1) := by decide +kernel
theorem dJ9_max_7cf53_6 : decode cJ9_max_7cf53 6 = .ok (.goto 4, 3) := by decide +kernel
theorem dJ9_max_7cf53_9 : decode cJ9_max_7cf53 9 = .ok (.iload_n 1, 1) := by decide +kernel
theorem dJ9_max_7cf53_10 : decode cJ9_max_7cf53 10 = .ok (.ireturn, 1) := by decide +kernel
theorem dJ9_min_7cf53_0 : decode cJ9_min_7cf53 0 = .ok (.iload_n 0, 1) := by decide +kernel
theorem dJ9_min_7cf53_1 : decode cJ9_min_7cf53 1 = .ok (.iload_n 1, 1) := by decide +kernel
theorem dJ9_min_7cf53_2 : decode cJ9_min_7cf53 2 = .ok (.if_icmp .gt 7, 3) := by decide +kernel
theorem dJ9_min_7cf53_5 : decode cJ9_min_7cf53 5 = .ok (.iload_n 0, 1) := by decide +kernel
theorem dJ9_min_7cf53_6 : decode cJ9_min_7cf53 6 = .ok (.goto 4, 3) := by decide +kernel
theorem dJ9_min_7cf53_9 : decode cJ9_min_7cf53 9 = .ok (.iload_n 1, 1) := by decide +kernel
theorem dJ9_min_7cf53_10 : decode cJ9_min_7cf53 10 = .ok (.ireturn, 1) := by decide +kernel
