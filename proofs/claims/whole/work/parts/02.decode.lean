theorem dK_init_0 : decode prog_1_method_1_code 0 = .ok (.aload_n 0, 1) := by decide +kernel
theorem dK_init_1 : decode prog_1_method_1_code 1 = .ok (.invokespecial 3, 3) := by decide +kernel
theorem dK_init_4 : decode prog_1_method_1_code 4 = .ok (.aload_n 0, 1) := by decide +kernel
theorem dK_init_5 : decode prog_1_method_1_code 5 = .ok (.sipush 128, 3) := by decide +kernel
theorem dK_init_8 : decode prog_1_method_1_code 8 = .ok (.newarray .int, 2) := by decide +kernel
theorem dK_init_10 : decode prog_1_method_1_code 10 = .ok (.putfield 9, 3) := by decide +kernel
theorem dK_init_13 : decode prog_1_method_1_code 13 = .ok (.aload_n 0, 1) := by decide +kernel
theorem dK_init_14 : decode prog_1_method_1_code 14 = .ok (.bipush 6, 2) := by decide +kernel
theorem dK_init_16 : decode prog_1_method_1_code 16 = .ok (.anewarray 13, 3) := by decide +kernel
theorem dK_init_19 : decode prog_1_method_1_code 19 = .ok (.putfield 15, 3) := by decide +kernel
theorem dK_init_22 : decode prog_1_method_1_code 22 = .ok (.aload_n 0, 1) := by decide +kernel
theorem dK_init_23 : decode prog_1_method_1_code 23 = .ok (.new 19, 3) := by decide +kernel
theorem dK_init_26 : decode prog_1_method_1_code 26 = .ok (.dup, 1) := by decide +kernel
theorem dK_init_27 : decode prog_1_method_1_code 27 = .ok (.invokespecial 21, 3) := by decide +kernel
theorem dK_init_30 : decode prog_1_method_1_code 30 = .ok (.putfield 22, 3) := by decide +kernel
theorem dK_init_33 : decode prog_1_method_1_code 33 = .ok (.aload_n 0, 1) := by decide +kernel
theorem dK_init_34 : decode prog_1_method_1_code 34 = .ok (.iconst 4, 1) := by decide +kernel
theorem dK_init_35 : decode prog_1_method_1_code 35 = .ok (.anewarray 19, 3) := by decide +kernel
theorem dK_init_38 : decode prog_1_method_1_code 38 = .ok (.putfield 26, 3) := by decide +kernel
theorem dK_init_41 : decode prog_1_method_1_code 41 = .ok (.aload_n 0, 1) := by decide +kernel
theorem dK_init_42 : decode prog_1_method_1_code 42 = .ok (.new 30, 3) := by decide +kernel
theorem dK_init_45 : decode prog_1_method_1_code 45 = .ok (.dup, 1) := by decide +kernel
theorem dK_init_46 : decode prog_1_method_1_code 46 = .ok (.invokespecial 32, 3) := by decide +kernel
theorem dK_init_49 : decode prog_1_method_1_code 49 = .ok (.putfield 33, 3) := by decide +kernel
theorem dK_init_52 : decode prog_1_method_1_code 52 = .ok (.aload_n 0, 1) := by decide +kernel
theorem dK_init_53 : decode prog_1_method_1_code 53 = .ok (.new 37, 3) := by decide +kernel
theorem dK_init_56 : decode prog_1_method_1_code 56 = .ok (.dup, 1) := by decide +kernel
theorem dK_init_57 : decode prog_1_method_1_code 57 = .ok (.invokespecial 39, 3) := by decide +kernel
theorem dK_init_60 : decode prog_1_method_1_code 60 = .ok (.putfield 40, 3) := by decide +kernel
theorem dK_init_63 : decode prog_1_method_1_code 63 = .ok (.aload_n 0, 1) := by decide +kernel
theorem dK_init_64 : decode prog_1_method_1_code 64 = .ok (.iconst 1, 1) := by decide +kernel
theorem dK_init_65 : decode prog_1_method_1_code 65 = .ok (.bipush 8, 2) := by decide +kernel
theorem dK_init_67 : decode prog_1_method_1_code 67 = .ok (.iload_n 1, 1) := by decide +kernel
theorem dK_init_68 : decode prog_1_method_1_code 68 = .ok (.invokestatic 44, 3) := by decide +kernel
theorem dK_init_71 : decode prog_1_method_1_code 71 = .ok (.invokestatic 50, 3) := by decide +kernel
theorem dK_init_74 : decode prog_1_method_1_code 74 = .ok (.putfield 53, 3) := by decide +kernel
theorem dK_init_77 : decode prog_1_method_1_code 77 = .ok (.iconst 0, 1) := by decide +kernel
theorem dK_init_78 : decode prog_1_method_1_code 78 = .ok (.istore_n 2, 1) := by decide +kernel
theorem dK_init_79 : decode prog_1_method_1_code 79 = .ok (.iload_n 2, 1) := by decide +kernel
theorem dK_init_80 : decode prog_1_method_1_code 80 = .ok (.bipush 6, 2) := by decide +kernel
theorem dK_init_82 : decode prog_1_method_1_code 82 = .ok (.if_icmp .ge 22, 3) := by decide +kernel
theorem dK_init_85 : decode prog_1_method_1_code 85 = .ok (.aload_n 0, 1) := by decide +kernel
theorem dK_init_86 : decode prog_1_method_1_code 86 = .ok (.getfield 15, 3) := by decide +kernel
theorem dK_init_89 : decode prog_1_method_1_code 89 = .ok (.iload_n 2, 1) := by decide +kernel
theorem dK_init_90 : decode prog_1_method_1_code 90 = .ok (.new 13, 3) := by decide +kernel
theorem dK_init_93 : decode prog_1_method_1_code 93 = .ok (.dup, 1) := by decide +kernel
theorem dK_init_94 : decode prog_1_method_1_code 94 = .ok (.invokespecial 57, 3) := by decide +kernel
theorem dK_init_97 : decode prog_1_method_1_code 97 = .ok (.aastore, 1) := by decide +kernel
theorem dK_init_98 : decode prog_1_method_1_code 98 = .ok (.iinc 2 1, 3) := by decide +kernel
theorem dK_init_101 : decode prog_1_method_1_code 101 = .ok (.goto (-22), 3) := by decide +kernel
theorem dK_init_104 : decode prog_1_method_1_code 104 = .ok (.iconst 0, 1) := by decide +kernel
theorem dK_init_105 : decode prog_1_method_1_code 105 = .ok (.istore_n 2, 1) := by decide +kernel
theorem dK_init_106 : decode prog_1_method_1_code 106 = .ok (.iload_n 2, 1) := by decide +kernel
theorem dK_init_107 : decode prog_1_method_1_code 107 = .ok (.iconst 4, 1) := by decide +kernel
theorem dK_init_108 : decode prog_1_method_1_code 108 = .ok (.if_icmp .ge 22, 3) := by decide +kernel
theorem dK_init_111 : decode prog_1_method_1_code 111 = .ok (.aload_n 0, 1) := by decide +kernel
theorem dK_init_112 : decode prog_1_method_1_code 112 = .ok (.getfield 26, 3) := by decide +kernel
theorem dK_init_115 : decode prog_1_method_1_code 115 = .ok (.iload_n 2, 1) := by decide +kernel
theorem dK_init_116 : decode prog_1_method_1_code 116 = .ok (.new 19, 3) := by decide +kernel
theorem dK_init_119 : decode prog_1_method_1_code 119 = .ok (.dup, 1) := by decide +kernel
theorem dK_init_120 : decode prog_1_method_1_code 120 = .ok (.invokespecial 21, 3) := by decide +kernel
theorem dK_init_123 : decode prog_1_method_1_code 123 = .ok (.aastore, 1) := by decide +kernel
theorem dK_init_124 : decode prog_1_method_1_code 124 = .ok (.iinc 2 1, 3) := by decide +kernel
theorem dK_init_127 : decode prog_1_method_1_code 127 = .ok (.goto (-21), 3) := by decide +kernel
theorem dK_init_130 : decode prog_1_method_1_code 130 = .ok (.return_, 1) := by decide +kernel
theorem dN_init_0 : decode prog_3_method_1_code 0 = .ok (.aload_n 0, 1) := by decide +kernel
theorem dN_init_1 : decode prog_3_method_1_code 1 = .ok (.invokespecial 3, 3) := by decide +kernel
theorem dN_init_4 : decode prog_3_method_1_code 4 = .ok (.aload_n 0, 1) := by decide +kernel
theorem dN_init_5 : decode prog_3_method_1_code 5 = .ok (.bipush 6, 2) := by decide +kernel
theorem dN_init_7 : decode prog_3_method_1_code 7 = .ok (.newarray .int, 2) := by decide +kernel
theorem dN_init_9 : decode prog_3_method_1_code 9 = .ok (.putfield 9, 3) := by decide +kernel
theorem dN_init_12 : decode prog_3_method_1_code 12 = .ok (.return_, 1) := by decide +kernel
theorem dG_init_0 : decode prog_2_method_1_code 0 = .ok (.aload_n 0, 1) := by decide +kernel
theorem dG_init_1 : decode prog_2_method_1_code 1 = .ok (.invokespecial 3, 3) := by decide +kernel
theorem dG_init_4 : decode prog_2_method_1_code 4 = .ok (.aload_n 0, 1) := by decide +kernel
theorem dG_init_5 : decode prog_2_method_1_code 5 = .ok (.bipush 48, 2) := by decide +kernel
theorem dG_init_7 : decode prog_2_method_1_code 7 = .ok (.newarray .int, 2) := by decide +kernel
theorem dG_init_9 : decode prog_2_method_1_code 9 = .ok (.putfield 9, 3) := by decide +kernel
theorem dG_init_12 : decode prog_2_method_1_code 12 = .ok (.aload_n 0, 1) := by decide +kernel
theorem dG_init_13 : decode prog_2_method_1_code 13 = .ok (.bipush 48, 2) := by decide +kernel
theorem dG_init_15 : decode prog_2_method_1_code 15 = .ok (.newarray .int, 2) := by decide +kernel
theorem dG_init_17 : decode prog_2_method_1_code 17 = .ok (.putfield 15, 3) := by decide +kernel
theorem dG_init_20 : decode prog_2_method_1_code 20 = .ok (.aload_n 0, 1) := by decide +kernel
theorem dG_init_21 : decode prog_2_method_1_code 21 = .ok (.bipush 48, 2) := by decide +kernel
theorem dG_init_23 : decode prog_2_method_1_code 23 = .ok (.newarray .int, 2) := by decide +kernel
theorem dG_init_25 : decode prog_2_method_1_code 25 = .ok (.putfield 18, 3) := by decide +kernel
theorem dG_init_28 : decode prog_2_method_1_code 28 = .ok (.aload_n 0, 1) := by decide +kernel
theorem dG_init_29 : decode prog_2_method_1_code 29 = .ok (.bipush 48, 2) := by decide +kernel
theorem dG_init_31 : decode prog_2_method_1_code 31 = .ok (.newarray .int, 2) := by decide +kernel
theorem dG_init_33 : decode prog_2_method_1_code 33 = .ok (.putfield 21, 3) := by decide +kernel
theorem dG_init_36 : decode prog_2_method_1_code 36 = .ok (.aload_n 0, 1) := by decide +kernel
theorem dG_init_37 : decode prog_2_method_1_code 37 = .ok (.bipush 48, 2) := by decide +kernel
theorem dG_init_39 : decode prog_2_method_1_code 39 = .ok (.newarray .boolean, 2) := by decide +kernel
theorem dG_init_41 : decode prog_2_method_1_code 41 = .ok (.putfield 24, 3) := by decide +kernel
theorem dG_init_44 : decode prog_2_method_1_code 44 = .ok (.return_, 1) := by decide +kernel
theorem dP_init_0 : decode prog_4_method_1_code 0 = .ok (.aload_n 0, 1) := by decide +kernel
theorem dP_init_1 : decode prog_4_method_1_code 1 = .ok (.invokespecial 3, 3) := by decide +kernel
theorem dP_init_4 : decode prog_4_method_1_code 4 = .ok (.aload_n 0, 1) := by decide +kernel
theorem dP_init_5 : decode prog_4_method_1_code 5 = .ok (.bipush 16, 2) := by decide +kernel
theorem dP_init_7 : decode prog_4_method_1_code 7 = .ok (.newarray .int, 2) := by decide +kernel
theorem dP_init_9 : decode prog_4_method_1_code 9 = .ok (.putfield 9, 3) := by decide +kernel
theorem dP_init_12 : decode prog_4_method_1_code 12 = .ok (.return_, 1) := by decide +kernel
theorem dT_init_0 : decode prog_5_method_1_code 0 = .ok (.aload_n 0, 1) := by decide +kernel
theorem dT_init_1 : decode prog_5_method_1_code 1 = .ok (.invokespecial 3, 3) := by decide +kernel
theorem dT_init_4 : decode prog_5_method_1_code 4 = .ok (.aload_n 0, 1) := by decide +kernel
theorem dT_init_5 : decode prog_5_method_1_code 5 = .ok (.bipush 8, 2) := by decide +kernel
theorem dT_init_7 : decode prog_5_method_1_code 7 = .ok (.newarray .int, 2) := by decide +kernel
theorem dT_init_9 : decode prog_5_method_1_code 9 = .ok (.putfield 9, 3) := by decide +kernel
theorem dT_init_12 : decode prog_5_method_1_code 12 = .ok (.aload_n 0, 1) := by decide +kernel
theorem dT_init_13 : decode prog_5_method_1_code 13 = .ok (.iconst 0, 1) := by decide +kernel
theorem dT_init_14 : decode prog_5_method_1_code 14 = .ok (.putfield 15, 3) := by decide +kernel
theorem dT_init_17 : decode prog_5_method_1_code 17 = .ok (.aload_n 0, 1) := by decide +kernel
theorem dT_init_18 : decode prog_5_method_1_code 18 = .ok (.iconst 0, 1) := by decide +kernel
theorem dT_init_19 : decode prog_5_method_1_code 19 = .ok (.putfield 19, 3) := by decide +kernel
theorem dT_init_22 : decode prog_5_method_1_code 22 = .ok (.aload_n 0, 1) := by decide +kernel
theorem dT_init_23 : decode prog_5_method_1_code 23 = .ok (.iconst (-1), 1) := by decide +kernel
theorem dT_init_24 : decode prog_5_method_1_code 24 = .ok (.putfield 22, 3) := by decide +kernel
theorem dT_init_27 : decode prog_5_method_1_code 27 = .ok (.return_, 1) := by decide +kernel
theorem dK_poke_0 : decode prog_1_method_2_code 0 = .ok (.iload_n 1, 1) := by decide +kernel
theorem dK_poke_1 : decode prog_1_method_2_code 1 = .ok (.iconst 0, 1) := by decide +kernel
theorem dK_poke_2 : decode prog_1_method_2_code 2 = .ok (.bipush 127, 2) := by decide +kernel
theorem dK_poke_4 : decode prog_1_method_2_code 4 = .ok (.invokestatic 58, 3) := by decide +kernel
theorem dK_poke_7 : decode prog_1_method_2_code 7 = .ok (.ifCond .ne 5, 3) := by decide +kernel
theorem dK_poke_10 : decode prog_1_method_2_code 10 = .ok (.iconst 0, 1) := by decide +kernel
theorem dK_poke_11 : decode prog_1_method_2_code 11 = .ok (.ireturn, 1) := by decide +kernel
theorem dK_poke_12 : decode prog_1_method_2_code 12 = .ok (.aload_n 0, 1) := by decide +kernel
theorem dK_poke_13 : decode prog_1_method_2_code 13 = .ok (.getfield 9, 3) := by decide +kernel
theorem dK_poke_16 : decode prog_1_method_2_code 16 = .ok (.iload_n 1, 1) := by decide +kernel
theorem dK_poke_17 : decode prog_1_method_2_code 17 = .ok (.iload_n 2, 1) := by decide +kernel
theorem dK_poke_18 : decode prog_1_method_2_code 18 = .ok (.iastore, 1) := by decide +kernel
theorem dK_poke_19 : decode prog_1_method_2_code 19 = .ok (.iconst 1, 1) := by decide +kernel
theorem dK_poke_20 : decode prog_1_method_2_code 20 = .ok (.ireturn, 1) := by decide +kernel
theorem dK_isBetween_0 : decode prog_1_method_19_code 0 = .ok (.iload_n 0, 1) := by decide +kernel
theorem dK_isBetween_1 : decode prog_1_method_19_code 1 = .ok (.iload_n 1, 1) := by decide +kernel
theorem dK_isBetween_2 : decode prog_1_method_19_code 2 = .ok (.if_icmp .lt 12, 3) := by decide +kernel
theorem dK_isBetween_5 : decode prog_1_method_19_code 5 = .ok (.iload_n 0, 1) := by decide +kernel
theorem dK_isBetween_6 : decode prog_1_method_19_code 6 = .ok (.iload_n 2, 1) := by decide +kernel
theorem dK_isBetween_7 : decode prog_1_method_19_code 7 = .ok (.if_icmp .gt 7, 3) := by decide +kernel
theorem dK_isBetween_10 : decode prog_1_method_19_code 10 = .ok (.iconst 1, 1) := by decide +kernel
theorem dK_isBetween_11 : decode prog_1_method_19_code 11 = .ok (.goto 4, 3) := by decide +kernel
theorem dK_isBetween_14 : decode prog_1_method_19_code 14 = .ok (.iconst 0, 1) := by decide +kernel
theorem dK_isBetween_15 : decode prog_1_method_19_code 15 = .ok (.ireturn, 1) := by decide +kernel
theorem dK_peek_0 : decode prog_1_method_3_code 0 = .ok (.iload_n 1, 1) := by decide +kernel
theorem dK_peek_1 : decode prog_1_method_3_code 1 = .ok (.iconst 0, 1) := by decide +kernel
theorem dK_peek_2 : decode prog_1_method_3_code 2 = .ok (.bipush 127, 2) := by decide +kernel
theorem dK_peek_4 : decode prog_1_method_3_code 4 = .ok (.invokestatic 58, 3) := by decide +kernel
theorem dK_peek_7 : decode prog_1_method_3_code 7 = .ok (.ifCond .eq 12, 3) := by decide +kernel
theorem dK_peek_10 : decode prog_1_method_3_code 10 = .ok (.aload_n 0, 1) := by decide +kernel
theorem dK_peek_11 : decode prog_1_method_3_code 11 = .ok (.getfield 9, 3) := by decide +kernel
theorem dK_peek_14 : decode prog_1_method_3_code 14 = .ok (.iload_n 1, 1) := by decide +kernel
theorem dK_peek_15 : decode prog_1_method_3_code 15 = .ok (.iaload, 1) := by decide +kernel
theorem dK_peek_16 : decode prog_1_method_3_code 16 = .ok (.goto 4, 3) := by decide +kernel
theorem dK_peek_19 : decode prog_1_method_3_code 19 = .ok (.iconst 0, 1) := by decide +kernel
theorem dK_peek_20 : decode prog_1_method_3_code 20 = .ok (.ireturn, 1) := by decide +kernel
theorem dK_spawn_0 : decode prog_1_method_4_code 0 = .ok (.iload_n 2, 1) := by decide +kernel
theorem dK_spawn_1 : decode prog_1_method_4_code 1 = .ok (.iconst 0, 1) := by decide +kernel
theorem dK_spawn_2 : decode prog_1_method_4_code 2 = .ok (.sipush 128, 3) := by decide +kernel
theorem dK_spawn_5 : decode prog_1_method_4_code 5 = .ok (.invokestatic 58, 3) := by decide +kernel
theorem dK_spawn_8 : decode prog_1_method_4_code 8 = .ok (.ifCond .eq 20, 3) := by decide +kernel
theorem dK_spawn_11 : decode prog_1_method_4_code 11 = .ok (.iload_n 3, 1) := by decide +kernel
theorem dK_spawn_12 : decode prog_1_method_4_code 12 = .ok (.iconst 0, 1) := by decide +kernel
theorem dK_spawn_13 : decode prog_1_method_4_code 13 = .ok (.sipush 128, 3) := by decide +kernel
theorem dK_spawn_16 : decode prog_1_method_4_code 16 = .ok (.iload_n 2, 1) := by decide +kernel
theorem dK_spawn_17 : decode prog_1_method_4_code 17 = .ok (.isub, 1) := by decide +kernel
theorem dK_spawn_18 : decode prog_1_method_4_code 18 = .ok (.invokestatic 58, 3) := by decide +kernel
theorem dK_spawn_21 : decode prog_1_method_4_code 21 = .ok (.ifCond .eq 7, 3) := by decide +kernel
theorem dK_spawn_24 : decode prog_1_method_4_code 24 = .ok (.iconst 1, 1) := by decide +kernel
theorem dK_spawn_25 : decode prog_1_method_4_code 25 = .ok (.goto 4, 3) := by decide +kernel
theorem dK_spawn_28 : decode prog_1_method_4_code 28 = .ok (.iconst 0, 1) := by decide +kernel
theorem dK_spawn_29 : decode prog_1_method_4_code 29 = .ok (.istore 4, 2) := by decide +kernel
theorem dK_spawn_31 : decode prog_1_method_4_code 31 = .ok (.iload 4, 2) := by decide +kernel
theorem dK_spawn_33 : decode prog_1_method_4_code 33 = .ok (.ifCond .eq 10, 3) := by decide +kernel
theorem dK_spawn_36 : decode prog_1_method_4_code 36 = .ok (.aload_n 0, 1) := by decide +kernel
theorem dK_spawn_37 : decode prog_1_method_4_code 37 = .ok (.invokevirtual 62, 3) := by decide +kernel
theorem dK_spawn_40 : decode prog_1_method_4_code 40 = .ok (.goto 4, 3) := by decide +kernel
theorem dK_spawn_43 : decode prog_1_method_4_code 43 = .ok (.iconst (-1), 1) := by decide +kernel
theorem dK_spawn_44 : decode prog_1_method_4_code 44 = .ok (.istore 5, 2) := by decide +kernel
theorem dK_spawn_46 : decode prog_1_method_4_code 46 = .ok (.iload 5, 2) := by decide +kernel
theorem dK_spawn_48 : decode prog_1_method_4_code 48 = .ok (.iconst (-1), 1) := by decide +kernel
theorem dK_spawn_49 : decode prog_1_method_4_code 49 = .ok (.if_icmp .ne 5, 3) := by decide +kernel
theorem dK_spawn_52 : decode prog_1_method_4_code 52 = .ok (.iconst (-1), 1) := by decide +kernel
theorem dK_spawn_53 : decode prog_1_method_4_code 53 = .ok (.ireturn, 1) := by decide +kernel
theorem dK_spawn_54 : decode prog_1_method_4_code 54 = .ok (.aload_n 0, 1) := by decide +kernel
theorem dK_spawn_55 : decode prog_1_method_4_code 55 = .ok (.getfield 15, 3) := by decide +kernel
theorem dK_spawn_58 : decode prog_1_method_4_code 58 = .ok (.iload 5, 2) := by decide +kernel
theorem dK_spawn_60 : decode prog_1_method_4_code 60 = .ok (.aaload, 1) := by decide +kernel
theorem dK_spawn_61 : decode prog_1_method_4_code 61 = .ok (.iload_n 1, 1) := by decide +kernel
theorem dK_spawn_62 : decode prog_1_method_4_code 62 = .ok (.iload_n 2, 1) := by decide +kernel
theorem dK_spawn_63 : decode prog_1_method_4_code 63 = .ok (.iload_n 3, 1) := by decide +kernel
theorem dK_spawn_64 : decode prog_1_method_4_code 64 = .ok (.invokevirtual 66, 3) := by decide +kernel
theorem dK_spawn_67 : decode prog_1_method_4_code 67 = .ok (.aload_n 0, 1) := by decide +kernel
theorem dK_spawn_68 : decode prog_1_method_4_code 68 = .ok (.iload 5, 2) := by decide +kernel
theorem dK_spawn_70 : decode prog_1_method_4_code 70 = .ok (.invokevirtual 70, 3) := by decide +kernel
theorem dK_spawn_73 : decode prog_1_method_4_code 73 = .ok (.iload 5, 2) := by decide +kernel
theorem dK_spawn_75 : decode prog_1_method_4_code 75 = .ok (.ireturn, 1) := by decide +kernel
theorem dK_leastFree_0 : decode prog_1_method_30_code 0 = .ok (.iconst 0, 1) := by decide +kernel
theorem dK_leastFree_1 : decode prog_1_method_30_code 1 = .ok (.istore_n 1, 1) := by decide +kernel
theorem dK_leastFree_2 : decode prog_1_method_30_code 2 = .ok (.iload_n 1, 1) := by decide +kernel
theorem dK_leastFree_3 : decode prog_1_method_30_code 3 = .ok (.bipush 6, 2) := by decide +kernel
theorem dK_leastFree_5 : decode prog_1_method_30_code 5 = .ok (.if_icmp .ge 23, 3) := by decide +kernel
theorem dK_leastFree_8 : decode prog_1_method_30_code 8 = .ok (.aload_n 0, 1) := by decide +kernel
theorem dK_leastFree_9 : decode prog_1_method_30_code 9 = .ok (.getfield 15, 3) := by decide +kernel
theorem dK_leastFree_12 : decode prog_1_method_30_code 12 = .ok (.iload_n 1, 1) := by decide +kernel
theorem dK_leastFree_13 : decode prog_1_method_30_code 13 = .ok (.aaload, 1) := by decide +kernel
theorem dK_leastFree_14 : decode prog_1_method_30_code 14 = .ok (.getfield 96, 3) := by decide +kernel
theorem dK_leastFree_17 : decode prog_1_method_30_code 17 = .ok (.ifCond .ne 5, 3) := by decide +kernel
theorem dK_leastFree_20 : decode prog_1_method_30_code 20 = .ok (.iload_n 1, 1) := by decide +kernel
theorem dK_leastFree_21 : decode prog_1_method_30_code 21 = .ok (.ireturn, 1) := by decide +kernel
theorem dK_leastFree_22 : decode prog_1_method_30_code 22 = .ok (.iinc 1 1, 3) := by decide +kernel
theorem dK_leastFree_25 : decode prog_1_method_30_code 25 = .ok (.goto (-23), 3) := by decide +kernel
theorem dK_leastFree_28 : decode prog_1_method_30_code 28 = .ok (.iconst (-1), 1) := by decide +kernel
theorem dK_leastFree_29 : decode prog_1_method_30_code 29 = .ok (.ireturn, 1) := by decide +kernel
theorem dT_begin_0 : decode prog_5_method_2_code 0 = .ok (.aload_n 0, 1) := by decide +kernel
theorem dT_begin_1 : decode prog_5_method_2_code 1 = .ok (.iload_n 1, 1) := by decide +kernel
theorem dT_begin_2 : decode prog_5_method_2_code 2 = .ok (.putfield 25, 3) := by decide +kernel
theorem dT_begin_5 : decode prog_5_method_2_code 5 = .ok (.aload_n 0, 1) := by decide +kernel
theorem dT_begin_6 : decode prog_5_method_2_code 6 = .ok (.iload_n 2, 1) := by decide +kernel
theorem dT_begin_7 : decode prog_5_method_2_code 7 = .ok (.putfield 28, 3) := by decide +kernel
theorem dT_begin_10 : decode prog_5_method_2_code 10 = .ok (.aload_n 0, 1) := by decide +kernel
theorem dT_begin_11 : decode prog_5_method_2_code 11 = .ok (.iload_n 3, 1) := by decide +kernel
theorem dT_begin_12 : decode prog_5_method_2_code 12 = .ok (.putfield 31, 3) := by decide +kernel
theorem dT_begin_15 : decode prog_5_method_2_code 15 = .ok (.aload_n 0, 1) := by decide +kernel
theorem dT_begin_16 : decode prog_5_method_2_code 16 = .ok (.iconst (-1), 1) := by decide +kernel
theorem dT_begin_17 : decode prog_5_method_2_code 17 = .ok (.putfield 22, 3) := by decide +kernel
theorem dT_begin_20 : decode prog_5_method_2_code 20 = .ok (.iconst 0, 1) := by decide +kernel
theorem dT_begin_21 : decode prog_5_method_2_code 21 = .ok (.istore 4, 2) := by decide +kernel
theorem dT_begin_23 : decode prog_5_method_2_code 23 = .ok (.iload 4, 2) := by decide +kernel
theorem dT_begin_25 : decode prog_5_method_2_code 25 = .ok (.bipush 8, 2) := by decide +kernel
theorem dT_begin_27 : decode prog_5_method_2_code 27 = .ok (.if_icmp .ge 17, 3) := by decide +kernel
theorem dT_begin_30 : decode prog_5_method_2_code 30 = .ok (.aload_n 0, 1) := by decide +kernel
theorem dT_begin_31 : decode prog_5_method_2_code 31 = .ok (.getfield 9, 3) := by decide +kernel
theorem dT_begin_34 : decode prog_5_method_2_code 34 = .ok (.iload 4, 2) := by decide +kernel
theorem dT_begin_36 : decode prog_5_method_2_code 36 = .ok (.iconst 0, 1) := by decide +kernel
theorem dT_begin_37 : decode prog_5_method_2_code 37 = .ok (.iastore, 1) := by decide +kernel
theorem dT_begin_38 : decode prog_5_method_2_code 38 = .ok (.iinc 4 1, 3) := by decide +kernel
theorem dT_begin_41 : decode prog_5_method_2_code 41 = .ok (.goto (-18), 3) := by decide +kernel
theorem dT_begin_44 : decode prog_5_method_2_code 44 = .ok (.return_, 1) := by decide +kernel
theorem dK_makeReady_0 : decode prog_1_method_31_code 0 = .ok (.aload_n 0, 1) := by decide +kernel
theorem dK_makeReady_1 : decode prog_1_method_31_code 1 = .ok (.getfield 15, 3) := by decide +kernel
theorem dK_makeReady_4 : decode prog_1_method_31_code 4 = .ok (.iload_n 1, 1) := by decide +kernel
theorem dK_makeReady_5 : decode prog_1_method_31_code 5 = .ok (.aaload, 1) := by decide +kernel
theorem dK_makeReady_6 : decode prog_1_method_31_code 6 = .ok (.iconst 1, 1) := by decide +kernel
theorem dK_makeReady_7 : decode prog_1_method_31_code 7 = .ok (.putfield 96, 3) := by decide +kernel
theorem dK_makeReady_10 : decode prog_1_method_31_code 10 = .ok (.aload_n 0, 1) := by decide +kernel
theorem dK_makeReady_11 : decode prog_1_method_31_code 11 = .ok (.getfield 22, 3) := by decide +kernel
theorem dK_makeReady_14 : decode prog_1_method_31_code 14 = .ok (.iload_n 1, 1) := by decide +kernel
theorem dK_makeReady_15 : decode prog_1_method_31_code 15 = .ok (.invokevirtual 139, 3) := by decide +kernel
theorem dK_makeReady_18 : decode prog_1_method_31_code 18 = .ok (.return_, 1) := by decide +kernel
theorem dN_append_0 : decode prog_3_method_3_code 0 = .ok (.aload_n 0, 1) := by decide +kernel
theorem dN_append_1 : decode prog_3_method_3_code 1 = .ok (.getfield 15, 3) := by decide +kernel
theorem dN_append_4 : decode prog_3_method_3_code 4 = .ok (.bipush 6, 2) := by decide +kernel
theorem dN_append_6 : decode prog_3_method_3_code 6 = .ok (.if_icmp .ge 23, 3) := by decide +kernel
theorem dN_append_9 : decode prog_3_method_3_code 9 = .ok (.aload_n 0, 1) := by decide +kernel
theorem dN_append_10 : decode prog_3_method_3_code 10 = .ok (.getfield 9, 3) := by decide +kernel
theorem dN_append_13 : decode prog_3_method_3_code 13 = .ok (.aload_n 0, 1) := by decide +kernel
theorem dN_append_14 : decode prog_3_method_3_code 14 = .ok (.getfield 15, 3) := by decide +kernel
theorem dN_append_17 : decode prog_3_method_3_code 17 = .ok (.iload_n 1, 1) := by decide +kernel
theorem dN_append_18 : decode prog_3_method_3_code 18 = .ok (.iastore, 1) := by decide +kernel
theorem dN_append_19 : decode prog_3_method_3_code 19 = .ok (.aload_n 0, 1) := by decide +kernel
theorem dN_append_20 : decode prog_3_method_3_code 20 = .ok (.dup, 1) := by decide +kernel
theorem dN_append_21 : decode prog_3_method_3_code 21 = .ok (.getfield 15, 3) := by decide +kernel
theorem dN_append_24 : decode prog_3_method_3_code 24 = .ok (.iconst 1, 1) := by decide +kernel
theorem dN_append_25 : decode prog_3_method_3_code 25 = .ok (.iadd, 1) := by decide +kernel
theorem dN_append_26 : decode prog_3_method_3_code 26 = .ok (.putfield 15, 3) := by decide +kernel
theorem dN_append_29 : decode prog_3_method_3_code 29 = .ok (.return_, 1) := by decide +kernel
theorem dK_put_0 : decode prog_1_method_5_code 0 = .ok (.aload_n 0, 1) := by decide +kernel
theorem dK_put_1 : decode prog_1_method_5_code 1 = .ok (.iload_n 1, 1) := by decide +kernel
theorem dK_put_2 : decode prog_1_method_5_code 2 = .ok (.invokevirtual 74, 3) := by decide +kernel
theorem dK_put_5 : decode prog_1_method_5_code 5 = .ok (.astore 4, 2) := by decide +kernel
theorem dK_put_7 : decode prog_1_method_5_code 7 = .ok (.aload 4, 2) := by decide +kernel
theorem dK_put_9 : decode prog_1_method_5_code 9 = .ok (.ifnull 13, 3) := by decide +kernel
theorem dK_put_12 : decode prog_1_method_5_code 12 = .ok (.iload_n 2, 1) := by decide +kernel
theorem dK_put_13 : decode prog_1_method_5_code 13 = .ok (.iconst 0, 1) := by decide +kernel
theorem dK_put_14 : decode prog_1_method_5_code 14 = .ok (.bipush 7, 2) := by decide +kernel
theorem dK_put_16 : decode prog_1_method_5_code 16 = .ok (.invokestatic 58, 3) := by decide +kernel
theorem dK_put_19 : decode prog_1_method_5_code 19 = .ok (.ifCond .ne 5, 3) := by decide +kernel
theorem dK_put_22 : decode prog_1_method_5_code 22 = .ok (.iconst 0, 1) := by decide +kernel
theorem dK_put_23 : decode prog_1_method_5_code 23 = .ok (.ireturn, 1) := by decide +kernel
theorem dK_put_24 : decode prog_1_method_5_code 24 = .ok (.aload 4, 2) := by decide +kernel
theorem dK_put_26 : decode prog_1_method_5_code 26 = .ok (.getfield 78, 3) := by decide +kernel
theorem dK_put_29 : decode prog_1_method_5_code 29 = .ok (.iload_n 2, 1) := by decide +kernel
theorem dK_put_30 : decode prog_1_method_5_code 30 = .ok (.iload_n 3, 1) := by decide +kernel
theorem dK_put_31 : decode prog_1_method_5_code 31 = .ok (.iastore, 1) := by decide +kernel
theorem dK_put_32 : decode prog_1_method_5_code 32 = .ok (.iconst 1, 1) := by decide +kernel
theorem dK_put_33 : decode prog_1_method_5_code 33 = .ok (.ireturn, 1) := by decide +kernel
theorem dK_usedTask_0 : decode prog_1_method_29_code 0 = .ok (.iload_n 1, 1) := by decide +kernel
theorem dK_usedTask_1 : decode prog_1_method_29_code 1 = .ok (.iconst 0, 1) := by decide +kernel
theorem dK_usedTask_2 : decode prog_1_method_29_code 2 = .ok (.iconst 5, 1) := by decide +kernel
theorem dK_usedTask_3 : decode prog_1_method_29_code 3 = .ok (.invokestatic 58, 3) := by decide +kernel
theorem dK_usedTask_6 : decode prog_1_method_29_code 6 = .ok (.ifCond .eq 24, 3) := by decide +kernel
theorem dK_usedTask_9 : decode prog_1_method_29_code 9 = .ok (.aload_n 0, 1) := by decide +kernel
theorem dK_usedTask_10 : decode prog_1_method_29_code 10 = .ok (.getfield 15, 3) := by decide +kernel
theorem dK_usedTask_13 : decode prog_1_method_29_code 13 = .ok (.iload_n 1, 1) := by decide +kernel
theorem dK_usedTask_14 : decode prog_1_method_29_code 14 = .ok (.aaload, 1) := by decide +kernel
theorem dK_usedTask_15 : decode prog_1_method_29_code 15 = .ok (.getfield 96, 3) := by decide +kernel
theorem dK_usedTask_18 : decode prog_1_method_29_code 18 = .ok (.ifCond .eq 12, 3) := by decide +kernel
theorem dK_usedTask_21 : decode prog_1_method_29_code 21 = .ok (.aload_n 0, 1) := by decide +kernel
theorem dK_usedTask_22 : decode prog_1_method_29_code 22 = .ok (.getfield 15, 3) := by decide +kernel
theorem dK_usedTask_25 : decode prog_1_method_29_code 25 = .ok (.iload_n 1, 1) := by decide +kernel
theorem dK_usedTask_26 : decode prog_1_method_29_code 26 = .ok (.aaload, 1) := by decide +kernel
theorem dK_usedTask_27 : decode prog_1_method_29_code 27 = .ok (.goto 4, 3) := by decide +kernel
theorem dK_usedTask_30 : decode prog_1_method_29_code 30 = .ok (.aconst_null, 1) := by decide +kernel
theorem dK_usedTask_31 : decode prog_1_method_29_code 31 = .ok (.areturn, 1) := by decide +kernel
theorem dK_give_0 : decode prog_1_method_6_code 0 = .ok (.iload_n 1, 1) := by decide +kernel
theorem dK_give_1 : decode prog_1_method_6_code 1 = .ok (.iload_n 2, 1) := by decide +kernel
theorem dK_give_2 : decode prog_1_method_6_code 2 = .ok (.invokestatic 81, 3) := by decide +kernel
theorem dK_give_5 : decode prog_1_method_6_code 5 = .ok (.istore 6, 2) := by decide +kernel
theorem dK_give_7 : decode prog_1_method_6_code 7 = .ok (.iload 6, 2) := by decide +kernel
theorem dK_give_9 : decode prog_1_method_6_code 9 = .ok (.iconst (-1), 1) := by decide +kernel
theorem dK_give_10 : decode prog_1_method_6_code 10 = .ok (.if_icmp .eq 23, 3) := by decide +kernel
theorem dK_give_13 : decode prog_1_method_6_code 13 = .ok (.aload_n 0, 1) := by decide +kernel
theorem dK_give_14 : decode prog_1_method_6_code 14 = .ok (.iload_n 1, 1) := by decide +kernel
theorem dK_give_15 : decode prog_1_method_6_code 15 = .ok (.invokevirtual 74, 3) := by decide +kernel
theorem dK_give_18 : decode prog_1_method_6_code 18 = .ok (.ifnull 15, 3) := by decide +kernel
theorem dK_give_21 : decode prog_1_method_6_code 21 = .ok (.aload_n 0, 1) := by decide +kernel
theorem dK_give_22 : decode prog_1_method_6_code 22 = .ok (.getfield 33, 3) := by decide +kernel
theorem dK_give_25 : decode prog_1_method_6_code 25 = .ok (.iload 6, 2) := by decide +kernel
theorem dK_give_27 : decode prog_1_method_6_code 27 = .ok (.invokevirtual 84, 3) := by decide +kernel
theorem dK_give_30 : decode prog_1_method_6_code 30 = .ok (.ifCond .eq 5, 3) := by decide +kernel
theorem dK_give_33 : decode prog_1_method_6_code 33 = .ok (.iconst 0, 1) := by decide +kernel
theorem dK_give_34 : decode prog_1_method_6_code 34 = .ok (.ireturn, 1) := by decide +kernel
theorem dK_give_35 : decode prog_1_method_6_code 35 = .ok (.iload_n 3, 1) := by decide +kernel
theorem dK_give_36 : decode prog_1_method_6_code 36 = .ok (.iload 4, 2) := by decide +kernel
theorem dK_give_38 : decode prog_1_method_6_code 38 = .ok (.invokestatic 88, 3) := by decide +kernel
theorem dK_give_41 : decode prog_1_method_6_code 41 = .ok (.ifCond .eq 14, 3) := by decide +kernel
theorem dK_give_44 : decode prog_1_method_6_code 44 = .ok (.iload 5, 2) := by decide +kernel
theorem dK_give_46 : decode prog_1_method_6_code 46 = .ok (.iconst 0, 1) := by decide +kernel
theorem dK_give_47 : decode prog_1_method_6_code 47 = .ok (.bipush 7, 2) := by decide +kernel
theorem dK_give_49 : decode prog_1_method_6_code 49 = .ok (.invokestatic 58, 3) := by decide +kernel
theorem dK_give_52 : decode prog_1_method_6_code 52 = .ok (.ifCond .ne 5, 3) := by decide +kernel
theorem dK_give_55 : decode prog_1_method_6_code 55 = .ok (.iconst 0, 1) := by decide +kernel
theorem dK_give_56 : decode prog_1_method_6_code 56 = .ok (.ireturn, 1) := by decide +kernel
theorem dK_give_57 : decode prog_1_method_6_code 57 = .ok (.aload_n 0, 1) := by decide +kernel
theorem dK_give_58 : decode prog_1_method_6_code 58 = .ok (.getfield 33, 3) := by decide +kernel
theorem dK_give_61 : decode prog_1_method_6_code 61 = .ok (.iload 6, 2) := by decide +kernel
theorem dK_give_63 : decode prog_1_method_6_code 63 = .ok (.iload_n 3, 1) := by decide +kernel
theorem dK_give_64 : decode prog_1_method_6_code 64 = .ok (.iload 4, 2) := by decide +kernel
theorem dK_give_66 : decode prog_1_method_6_code 66 = .ok (.iload 5, 2) := by decide +kernel
theorem dK_give_68 : decode prog_1_method_6_code 68 = .ok (.iconst (-1), 1) := by decide +kernel
theorem dK_give_69 : decode prog_1_method_6_code 69 = .ok (.invokevirtual 92, 3) := by decide +kernel
theorem dK_give_72 : decode prog_1_method_6_code 72 = .ok (.iconst 1, 1) := by decide +kernel
theorem dK_give_73 : decode prog_1_method_6_code 73 = .ok (.ireturn, 1) := by decide +kernel
theorem dK_placeOf_0 : decode prog_1_method_21_code 0 = .ok (.iload_n 0, 1) := by decide +kernel
theorem dK_placeOf_1 : decode prog_1_method_21_code 1 = .ok (.iconst 0, 1) := by decide +kernel
theorem dK_placeOf_2 : decode prog_1_method_21_code 2 = .ok (.iconst 5, 1) := by decide +kernel
theorem dK_placeOf_3 : decode prog_1_method_21_code 3 = .ok (.invokestatic 58, 3) := by decide +kernel
theorem dK_placeOf_6 : decode prog_1_method_21_code 6 = .ok (.ifCond .eq 17, 3) := by decide +kernel
theorem dK_placeOf_9 : decode prog_1_method_21_code 9 = .ok (.iload_n 1, 1) := by decide +kernel
theorem dK_placeOf_10 : decode prog_1_method_21_code 10 = .ok (.iconst 0, 1) := by decide +kernel
theorem dK_placeOf_11 : decode prog_1_method_21_code 11 = .ok (.bipush 7, 2) := by decide +kernel
theorem dK_placeOf_13 : decode prog_1_method_21_code 13 = .ok (.invokestatic 58, 3) := by decide +kernel
theorem dK_placeOf_16 : decode prog_1_method_21_code 16 = .ok (.ifCond .eq 7, 3) := by decide +kernel
theorem dK_placeOf_19 : decode prog_1_method_21_code 19 = .ok (.iconst 1, 1) := by decide +kernel
theorem dK_placeOf_20 : decode prog_1_method_21_code 20 = .ok (.goto 4, 3) := by decide +kernel
theorem dK_placeOf_23 : decode prog_1_method_21_code 23 = .ok (.iconst 0, 1) := by decide +kernel
theorem dK_placeOf_24 : decode prog_1_method_21_code 24 = .ok (.istore_n 2, 1) := by decide +kernel
theorem dK_placeOf_25 : decode prog_1_method_21_code 25 = .ok (.iload_n 2, 1) := by decide +kernel
theorem dK_placeOf_26 : decode prog_1_method_21_code 26 = .ok (.ifCond .eq 11, 3) := by decide +kernel
theorem dK_placeOf_29 : decode prog_1_method_21_code 29 = .ok (.iload_n 0, 1) := by decide +kernel
theorem dK_placeOf_30 : decode prog_1_method_21_code 30 = .ok (.iload_n 1, 1) := by decide +kernel
theorem dK_placeOf_31 : decode prog_1_method_21_code 31 = .ok (.invokestatic 102, 3) := by decide +kernel
theorem dK_placeOf_34 : decode prog_1_method_21_code 34 = .ok (.goto 4, 3) := by decide +kernel
theorem dK_placeOf_37 : decode prog_1_method_21_code 37 = .ok (.iconst (-1), 1) := by decide +kernel
theorem dK_placeOf_38 : decode prog_1_method_21_code 38 = .ok (.ireturn, 1) := by decide +kernel
theorem dK_slotPlace_0 : decode prog_1_method_22_code 0 = .ok (.bipush 8, 2) := by decide +kernel
theorem dK_slotPlace_2 : decode prog_1_method_22_code 2 = .ok (.iload_n 0, 1) := by decide +kernel
theorem dK_slotPlace_3 : decode prog_1_method_22_code 3 = .ok (.imul, 1) := by decide +kernel
theorem dK_slotPlace_4 : decode prog_1_method_22_code 4 = .ok (.iload_n 1, 1) := by decide +kernel
theorem dK_slotPlace_5 : decode prog_1_method_22_code 5 = .ok (.iadd, 1) := by decide +kernel
theorem dK_slotPlace_6 : decode prog_1_method_22_code 6 = .ok (.ireturn, 1) := by decide +kernel
theorem dG_holds_0 : decode prog_2_method_2_code 0 = .ok (.aload_n 0, 1) := by decide +kernel
theorem dG_holds_1 : decode prog_2_method_2_code 1 = .ok (.getfield 9, 3) := by decide +kernel
theorem dG_holds_4 : decode prog_2_method_2_code 4 = .ok (.iload_n 1, 1) := by decide +kernel
theorem dG_holds_5 : decode prog_2_method_2_code 5 = .ok (.iaload, 1) := by decide +kernel
theorem dG_holds_6 : decode prog_2_method_2_code 6 = .ok (.ifCond .eq 7, 3) := by decide +kernel
theorem dG_holds_9 : decode prog_2_method_2_code 9 = .ok (.iconst 1, 1) := by decide +kernel
theorem dG_holds_10 : decode prog_2_method_2_code 10 = .ok (.goto 4, 3) := by decide +kernel
theorem dG_holds_13 : decode prog_2_method_2_code 13 = .ok (.iconst 0, 1) := by decide +kernel
theorem dG_holds_14 : decode prog_2_method_2_code 14 = .ok (.ireturn, 1) := by decide +kernel
theorem dK_isObjectOfKind_0 : decode prog_1_method_20_code 0 = .ok (.iload_n 0, 1) := by decide +kernel
theorem dK_isObjectOfKind_1 : decode prog_1_method_20_code 1 = .ok (.iconst 1, 1) := by decide +kernel
theorem dK_isObjectOfKind_2 : decode prog_1_method_20_code 2 = .ok (.if_icmp .ne 10, 3) := by decide +kernel
theorem dK_isObjectOfKind_5 : decode prog_1_method_20_code 5 = .ok (.iload_n 1, 1) := by decide +kernel
theorem dK_isObjectOfKind_6 : decode prog_1_method_20_code 6 = .ok (.iconst 0, 1) := by decide +kernel
theorem dK_isObjectOfKind_7 : decode prog_1_method_20_code 7 = .ok (.iconst 3, 1) := by decide +kernel
theorem dK_isObjectOfKind_8 : decode prog_1_method_20_code 8 = .ok (.invokestatic 58, 3) := by decide +kernel
theorem dK_isObjectOfKind_11 : decode prog_1_method_20_code 11 = .ok (.ireturn, 1) := by decide +kernel
theorem dK_isObjectOfKind_12 : decode prog_1_method_20_code 12 = .ok (.iload_n 0, 1) := by decide +kernel
theorem dK_isObjectOfKind_13 : decode prog_1_method_20_code 13 = .ok (.iconst 2, 1) := by decide +kernel
theorem dK_isObjectOfKind_14 : decode prog_1_method_20_code 14 = .ok (.if_icmp .ne 11, 3) := by decide +kernel
theorem dK_isObjectOfKind_17 : decode prog_1_method_20_code 17 = .ok (.iload_n 1, 1) := by decide +kernel
theorem dK_isObjectOfKind_18 : decode prog_1_method_20_code 18 = .ok (.ifCond .ne 7, 3) := by decide +kernel
theorem dK_isObjectOfKind_21 : decode prog_1_method_20_code 21 = .ok (.iconst 1, 1) := by decide +kernel
theorem dK_isObjectOfKind_22 : decode prog_1_method_20_code 22 = .ok (.goto 4, 3) := by decide +kernel
theorem dK_isObjectOfKind_25 : decode prog_1_method_20_code 25 = .ok (.iconst 0, 1) := by decide +kernel
theorem dK_isObjectOfKind_26 : decode prog_1_method_20_code 26 = .ok (.ireturn, 1) := by decide +kernel
theorem dG_fill_0 : decode prog_2_method_6_code 0 = .ok (.aload_n 0, 1) := by decide +kernel
theorem dG_fill_1 : decode prog_2_method_6_code 1 = .ok (.getfield 9, 3) := by decide +kernel
theorem dG_fill_4 : decode prog_2_method_6_code 4 = .ok (.iload_n 1, 1) := by decide +kernel
theorem dG_fill_5 : decode prog_2_method_6_code 5 = .ok (.iload_n 2, 1) := by decide +kernel
theorem dG_fill_6 : decode prog_2_method_6_code 6 = .ok (.iastore, 1) := by decide +kernel
theorem dG_fill_7 : decode prog_2_method_6_code 7 = .ok (.aload_n 0, 1) := by decide +kernel
theorem dG_fill_8 : decode prog_2_method_6_code 8 = .ok (.getfield 15, 3) := by decide +kernel
theorem dG_fill_11 : decode prog_2_method_6_code 11 = .ok (.iload_n 1, 1) := by decide +kernel
theorem dG_fill_12 : decode prog_2_method_6_code 12 = .ok (.iload_n 3, 1) := by decide +kernel
theorem dG_fill_13 : decode prog_2_method_6_code 13 = .ok (.iastore, 1) := by decide +kernel
theorem dG_fill_14 : decode prog_2_method_6_code 14 = .ok (.aload_n 0, 1) := by decide +kernel
theorem dG_fill_15 : decode prog_2_method_6_code 15 = .ok (.getfield 18, 3) := by decide +kernel
theorem dG_fill_18 : decode prog_2_method_6_code 18 = .ok (.iload_n 1, 1) := by decide +kernel
theorem dG_fill_19 : decode prog_2_method_6_code 19 = .ok (.iload 4, 2) := by decide +kernel
theorem dG_fill_21 : decode prog_2_method_6_code 21 = .ok (.iastore, 1) := by decide +kernel
theorem dG_fill_22 : decode prog_2_method_6_code 22 = .ok (.aload_n 0, 1) := by decide +kernel
theorem dG_fill_23 : decode prog_2_method_6_code 23 = .ok (.getfield 21, 3) := by decide +kernel
theorem dG_fill_26 : decode prog_2_method_6_code 26 = .ok (.iload_n 1, 1) := by decide +kernel
theorem dG_fill_27 : decode prog_2_method_6_code 27 = .ok (.iload 5, 2) := by decide +kernel
theorem dG_fill_29 : decode prog_2_method_6_code 29 = .ok (.iastore, 1) := by decide +kernel
theorem dG_fill_30 : decode prog_2_method_6_code 30 = .ok (.return_, 1) := by decide +kernel
theorem dK_reap_0 : decode prog_1_method_7_code 0 = .ok (.aload_n 0, 1) := by decide +kernel
theorem dK_reap_1 : decode prog_1_method_7_code 1 = .ok (.iload_n 1, 1) := by decide +kernel
theorem dK_reap_2 : decode prog_1_method_7_code 2 = .ok (.invokevirtual 74, 3) := by decide +kernel
theorem dK_reap_5 : decode prog_1_method_7_code 5 = .ok (.astore_n 2, 1) := by decide +kernel
theorem dK_reap_6 : decode prog_1_method_7_code 6 = .ok (.aload_n 2, 1) := by decide +kernel
theorem dK_reap_7 : decode prog_1_method_7_code 7 = .ok (.ifnull 20, 3) := by decide +kernel
theorem dK_reap_10 : decode prog_1_method_7_code 10 = .ok (.aload_n 2, 1) := by decide +kernel
theorem dK_reap_11 : decode prog_1_method_7_code 11 = .ok (.getfield 96, 3) := by decide +kernel
theorem dK_reap_14 : decode prog_1_method_7_code 14 = .ok (.bipush 6, 2) := by decide +kernel
theorem dK_reap_16 : decode prog_1_method_7_code 16 = .ok (.if_icmp .eq 13, 3) := by decide +kernel
theorem dK_reap_19 : decode prog_1_method_7_code 19 = .ok (.aload_n 2, 1) := by decide +kernel
theorem dK_reap_20 : decode prog_1_method_7_code 20 = .ok (.getfield 96, 3) := by decide +kernel
theorem dK_reap_23 : decode prog_1_method_7_code 23 = .ok (.iconst 5, 1) := by decide +kernel
theorem dK_reap_24 : decode prog_1_method_7_code 24 = .ok (.if_icmp .eq 5, 3) := by decide +kernel
theorem dK_reap_27 : decode prog_1_method_7_code 27 = .ok (.iconst 0, 1) := by decide +kernel
theorem dK_reap_28 : decode prog_1_method_7_code 28 = .ok (.ireturn, 1) := by decide +kernel
theorem dK_reap_29 : decode prog_1_method_7_code 29 = .ok (.aload_n 2, 1) := by decide +kernel
theorem dK_reap_30 : decode prog_1_method_7_code 30 = .ok (.invokevirtual 99, 3) := by decide +kernel
theorem dK_reap_33 : decode prog_1_method_7_code 33 = .ok (.iconst 0, 1) := by decide +kernel
theorem dK_reap_34 : decode prog_1_method_7_code 34 = .ok (.istore_n 3, 1) := by decide +kernel
theorem dK_reap_35 : decode prog_1_method_7_code 35 = .ok (.iload_n 3, 1) := by decide +kernel
theorem dK_reap_36 : decode prog_1_method_7_code 36 = .ok (.bipush 8, 2) := by decide +kernel
theorem dK_reap_38 : decode prog_1_method_7_code 38 = .ok (.if_icmp .ge 21, 3) := by decide +kernel
theorem dK_reap_41 : decode prog_1_method_7_code 41 = .ok (.aload_n 0, 1) := by decide +kernel
theorem dK_reap_42 : decode prog_1_method_7_code 42 = .ok (.getfield 33, 3) := by decide +kernel
theorem dK_reap_45 : decode prog_1_method_7_code 45 = .ok (.iload_n 1, 1) := by decide +kernel
theorem dK_reap_46 : decode prog_1_method_7_code 46 = .ok (.iload_n 3, 1) := by decide +kernel
theorem dK_reap_47 : decode prog_1_method_7_code 47 = .ok (.invokestatic 102, 3) := by decide +kernel
theorem dK_reap_50 : decode prog_1_method_7_code 50 = .ok (.invokevirtual 105, 3) := by decide +kernel
theorem dK_reap_53 : decode prog_1_method_7_code 53 = .ok (.iinc 3 1, 3) := by decide +kernel
theorem dK_reap_56 : decode prog_1_method_7_code 56 = .ok (.goto (-21), 3) := by decide +kernel
theorem dK_reap_59 : decode prog_1_method_7_code 59 = .ok (.iconst 1, 1) := by decide +kernel
theorem dK_reap_60 : decode prog_1_method_7_code 60 = .ok (.ireturn, 1) := by decide +kernel
theorem dT_end_0 : decode prog_5_method_4_code 0 = .ok (.aload_n 0, 1) := by decide +kernel
theorem dT_end_1 : decode prog_5_method_4_code 1 = .ok (.iconst 0, 1) := by decide +kernel
theorem dT_end_2 : decode prog_5_method_4_code 2 = .ok (.putfield 15, 3) := by decide +kernel
theorem dT_end_5 : decode prog_5_method_4_code 5 = .ok (.aload_n 0, 1) := by decide +kernel
theorem dT_end_6 : decode prog_5_method_4_code 6 = .ok (.iconst 0, 1) := by decide +kernel
theorem dT_end_7 : decode prog_5_method_4_code 7 = .ok (.putfield 19, 3) := by decide +kernel
theorem dT_end_10 : decode prog_5_method_4_code 10 = .ok (.return_, 1) := by decide +kernel
theorem dG_removeAt_0 : decode prog_2_method_9_code 0 = .ok (.aload_n 0, 1) := by decide +kernel
theorem dG_removeAt_1 : decode prog_2_method_9_code 1 = .ok (.iload_n 1, 1) := by decide +kernel
theorem dG_removeAt_2 : decode prog_2_method_9_code 2 = .ok (.invokevirtual 32, 3) := by decide +kernel
theorem dG_removeAt_5 : decode prog_2_method_9_code 5 = .ok (.ifCond .ne 4, 3) := by decide +kernel
theorem dG_removeAt_8 : decode prog_2_method_9_code 8 = .ok (.return_, 1) := by decide +kernel
theorem dG_removeAt_9 : decode prog_2_method_9_code 9 = .ok (.iconst 0, 1) := by decide +kernel
theorem dG_removeAt_10 : decode prog_2_method_9_code 10 = .ok (.istore_n 2, 1) := by decide +kernel
theorem dG_removeAt_11 : decode prog_2_method_9_code 11 = .ok (.iload_n 2, 1) := by decide +kernel
theorem dG_removeAt_12 : decode prog_2_method_9_code 12 = .ok (.bipush 48, 2) := by decide +kernel
theorem dG_removeAt_14 : decode prog_2_method_9_code 14 = .ok (.if_icmp .ge 39, 3) := by decide +kernel
theorem dG_removeAt_17 : decode prog_2_method_9_code 17 = .ok (.aload_n 0, 1) := by decide +kernel
theorem dG_removeAt_18 : decode prog_2_method_9_code 18 = .ok (.iload_n 2, 1) := by decide +kernel
theorem dG_removeAt_19 : decode prog_2_method_9_code 19 = .ok (.invokevirtual 32, 3) := by decide +kernel
theorem dG_removeAt_22 : decode prog_2_method_9_code 22 = .ok (.ifCond .eq 25, 3) := by decide +kernel
theorem dG_removeAt_25 : decode prog_2_method_9_code 25 = .ok (.aload_n 0, 1) := by decide +kernel
theorem dG_removeAt_26 : decode prog_2_method_9_code 26 = .ok (.getfield 21, 3) := by decide +kernel
theorem dG_removeAt_29 : decode prog_2_method_9_code 29 = .ok (.iload_n 2, 1) := by decide +kernel
theorem dG_removeAt_30 : decode prog_2_method_9_code 30 = .ok (.iaload, 1) := by decide +kernel
theorem dG_removeAt_31 : decode prog_2_method_9_code 31 = .ok (.iload_n 1, 1) := by decide +kernel
theorem dG_removeAt_32 : decode prog_2_method_9_code 32 = .ok (.if_icmp .ne 15, 3) := by decide +kernel
theorem dG_removeAt_35 : decode prog_2_method_9_code 35 = .ok (.aload_n 0, 1) := by decide +kernel
theorem dG_removeAt_36 : decode prog_2_method_9_code 36 = .ok (.getfield 21, 3) := by decide +kernel
theorem dG_removeAt_39 : decode prog_2_method_9_code 39 = .ok (.iload_n 2, 1) := by decide +kernel
theorem dG_removeAt_40 : decode prog_2_method_9_code 40 = .ok (.aload_n 0, 1) := by decide +kernel
theorem dG_removeAt_41 : decode prog_2_method_9_code 41 = .ok (.getfield 21, 3) := by decide +kernel
theorem dG_removeAt_44 : decode prog_2_method_9_code 44 = .ok (.iload_n 1, 1) := by decide +kernel
theorem dG_removeAt_45 : decode prog_2_method_9_code 45 = .ok (.iaload, 1) := by decide +kernel
theorem dG_removeAt_46 : decode prog_2_method_9_code 46 = .ok (.iastore, 1) := by decide +kernel
theorem dG_removeAt_47 : decode prog_2_method_9_code 47 = .ok (.iinc 2 1, 3) := by decide +kernel
theorem dG_removeAt_50 : decode prog_2_method_9_code 50 = .ok (.goto (-39), 3) := by decide +kernel
theorem dG_removeAt_53 : decode prog_2_method_9_code 53 = .ok (.aload_n 0, 1) := by decide +kernel
theorem dG_removeAt_54 : decode prog_2_method_9_code 54 = .ok (.iload_n 1, 1) := by decide +kernel
theorem dG_removeAt_55 : decode prog_2_method_9_code 55 = .ok (.invokevirtual 36, 3) := by decide +kernel
theorem dG_removeAt_58 : decode prog_2_method_9_code 58 = .ok (.return_, 1) := by decide +kernel
theorem dG_empty_0 : decode prog_2_method_7_code 0 = .ok (.aload_n 0, 1) := by decide +kernel
theorem dG_empty_1 : decode prog_2_method_7_code 1 = .ok (.iload_n 1, 1) := by decide +kernel
theorem dG_empty_2 : decode prog_2_method_7_code 2 = .ok (.iconst 0, 1) := by decide +kernel
theorem dG_empty_3 : decode prog_2_method_7_code 3 = .ok (.iconst 0, 1) := by decide +kernel
theorem dG_empty_4 : decode prog_2_method_7_code 4 = .ok (.iconst 0, 1) := by decide +kernel
theorem dG_empty_5 : decode prog_2_method_7_code 5 = .ok (.iconst (-1), 1) := by decide +kernel
theorem dG_empty_6 : decode prog_2_method_7_code 6 = .ok (.invokevirtual 28, 3) := by decide +kernel
theorem dG_empty_9 : decode prog_2_method_7_code 9 = .ok (.return_, 1) := by decide +kernel
theorem dK_step_0 : decode prog_1_method_8_code 0 = .ok (.iload_n 1, 1) := by decide +kernel
theorem dK_step_1 : decode prog_1_method_8_code 1 = .ok (.iconst 1, 1) := by decide +kernel
theorem dK_step_2 : decode prog_1_method_8_code 2 = .ok (.bipush 50, 2) := by decide +kernel
theorem dK_step_4 : decode prog_1_method_8_code 4 = .ok (.invokestatic 58, 3) := by decide +kernel
theorem dK_step_7 : decode prog_1_method_8_code 7 = .ok (.ifCond .ne 5, 3) := by decide +kernel
theorem dK_step_10 : decode prog_1_method_8_code 10 = .ok (.iconst (-1), 1) := by decide +kernel
theorem dK_step_11 : decode prog_1_method_8_code 11 = .ok (.ireturn, 1) := by decide +kernel
theorem dK_step_12 : decode prog_1_method_8_code 12 = .ok (.iconst 0, 1) := by decide +kernel
theorem dK_step_13 : decode prog_1_method_8_code 13 = .ok (.istore_n 2, 1) := by decide +kernel
theorem dK_step_14 : decode prog_1_method_8_code 14 = .ok (.iload_n 2, 1) := by decide +kernel
theorem dK_step_15 : decode prog_1_method_8_code 15 = .ok (.iload_n 1, 1) := by decide +kernel
theorem dK_step_16 : decode prog_1_method_8_code 16 = .ok (.if_icmp .ge 33, 3) := by decide +kernel
theorem dK_step_19 : decode prog_1_method_8_code 19 = .ok (.aload_n 0, 1) := by decide +kernel
theorem dK_step_20 : decode prog_1_method_8_code 20 = .ok (.getfield 22, 3) := by decide +kernel
theorem dK_step_23 : decode prog_1_method_8_code 23 = .ok (.iconst 0, 1) := by decide +kernel
theorem dK_step_24 : decode prog_1_method_8_code 24 = .ok (.invokevirtual 108, 3) := by decide +kernel
theorem dK_step_27 : decode prog_1_method_8_code 27 = .ok (.iconst (-1), 1) := by decide +kernel
theorem dK_step_28 : decode prog_1_method_8_code 28 = .ok (.if_icmp .eq 21, 3) := by decide +kernel
theorem dK_step_31 : decode prog_1_method_8_code 31 = .ok (.aload_n 0, 1) := by decide +kernel
theorem dK_step_32 : decode prog_1_method_8_code 32 = .ok (.aload_n 0, 1) := by decide +kernel
theorem dK_step_33 : decode prog_1_method_8_code 33 = .ok (.getfield 22, 3) := by decide +kernel
theorem dK_step_36 : decode prog_1_method_8_code 36 = .ok (.iconst 0, 1) := by decide +kernel
theorem dK_step_37 : decode prog_1_method_8_code 37 = .ok (.invokevirtual 108, 3) := by decide +kernel
theorem dK_step_40 : decode prog_1_method_8_code 40 = .ok (.invokevirtual 112, 3) := by decide +kernel
theorem dK_step_43 : decode prog_1_method_8_code 43 = .ok (.iinc 2 1, 3) := by decide +kernel
theorem dK_step_46 : decode prog_1_method_8_code 46 = .ok (.goto (-32), 3) := by decide +kernel
theorem dK_step_49 : decode prog_1_method_8_code 49 = .ok (.iload_n 2, 1) := by decide +kernel
theorem dK_step_50 : decode prog_1_method_8_code 50 = .ok (.ireturn, 1) := by decide +kernel
theorem dN_at_0 : decode prog_3_method_2_code 0 = .ok (.iload_n 1, 1) := by decide +kernel
theorem dN_at_1 : decode prog_3_method_2_code 1 = .ok (.iconst 0, 1) := by decide +kernel
theorem dN_at_2 : decode prog_3_method_2_code 2 = .ok (.aload_n 0, 1) := by decide +kernel
theorem dN_at_3 : decode prog_3_method_2_code 3 = .ok (.getfield 15, 3) := by decide +kernel
theorem dN_at_6 : decode prog_3_method_2_code 6 = .ok (.iconst 1, 1) := by decide +kernel
theorem dN_at_7 : decode prog_3_method_2_code 7 = .ok (.isub, 1) := by decide +kernel
theorem dN_at_8 : decode prog_3_method_2_code 8 = .ok (.invokestatic 19, 3) := by decide +kernel
theorem dN_at_11 : decode prog_3_method_2_code 11 = .ok (.ifCond .eq 12, 3) := by decide +kernel
theorem dN_at_14 : decode prog_3_method_2_code 14 = .ok (.aload_n 0, 1) := by decide +kernel
theorem dN_at_15 : decode prog_3_method_2_code 15 = .ok (.getfield 9, 3) := by decide +kernel
theorem dN_at_18 : decode prog_3_method_2_code 18 = .ok (.iload_n 1, 1) := by decide +kernel
theorem dN_at_19 : decode prog_3_method_2_code 19 = .ok (.iaload, 1) := by decide +kernel
theorem dN_at_20 : decode prog_3_method_2_code 20 = .ok (.goto 4, 3) := by decide +kernel
theorem dN_at_23 : decode prog_3_method_2_code 23 = .ok (.iconst (-1), 1) := by decide +kernel
theorem dN_at_24 : decode prog_3_method_2_code 24 = .ok (.ireturn, 1) := by decide +kernel
theorem dK_runFirst_0 : decode prog_1_method_32_code 0 = .ok (.aload_n 0, 1) := by decide +kernel
theorem dK_runFirst_1 : decode prog_1_method_32_code 1 = .ok (.getfield 15, 3) := by decide +kernel
theorem dK_runFirst_4 : decode prog_1_method_32_code 4 = .ok (.iload_n 1, 1) := by decide +kernel
theorem dK_runFirst_5 : decode prog_1_method_32_code 5 = .ok (.aaload, 1) := by decide +kernel
theorem dK_runFirst_6 : decode prog_1_method_32_code 6 = .ok (.astore_n 2, 1) := by decide +kernel
theorem dK_runFirst_7 : decode prog_1_method_32_code 7 = .ok (.iconst 0, 1) := by decide +kernel
theorem dK_runFirst_8 : decode prog_1_method_32_code 8 = .ok (.istore_n 3, 1) := by decide +kernel
theorem dK_runFirst_9 : decode prog_1_method_32_code 9 = .ok (.aload_n 2, 1) := by decide +kernel
theorem dK_runFirst_10 : decode prog_1_method_32_code 10 = .ok (.aload_n 2, 1) := by decide +kernel
theorem dK_runFirst_11 : decode prog_1_method_32_code 11 = .ok (.getfield 118, 3) := by decide +kernel
theorem dK_runFirst_14 : decode prog_1_method_32_code 14 = .ok (.i2l, 1) := by decide +kernel
theorem dK_runFirst_15 : decode prog_1_method_32_code 15 = .ok (.invokevirtual 142, 3) := by decide +kernel
theorem dK_runFirst_18 : decode prog_1_method_32_code 18 = .ok (.ifCond .ne 11, 3) := by decide +kernel
theorem dK_runFirst_21 : decode prog_1_method_32_code 21 = .ok (.aload_n 2, 1) := by decide +kernel
theorem dK_runFirst_22 : decode prog_1_method_32_code 22 = .ok (.iconst 1, 1) := by decide +kernel
theorem dK_runFirst_23 : decode prog_1_method_32_code 23 = .ok (.invokevirtual 146, 3) := by decide +kernel
theorem dK_runFirst_26 : decode prog_1_method_32_code 26 = .ok (.goto 68, 3) := by decide +kernel
theorem dK_runFirst_29 : decode prog_1_method_32_code 29 = .ok (.aload_n 0, 1) := by decide +kernel
theorem dK_runFirst_30 : decode prog_1_method_32_code 30 = .ok (.getfield 9, 3) := by decide +kernel
theorem dK_runFirst_33 : decode prog_1_method_32_code 33 = .ok (.aload_n 2, 1) := by decide +kernel
theorem dK_runFirst_34 : decode prog_1_method_32_code 34 = .ok (.getfield 149, 3) := by decide +kernel
theorem dK_runFirst_37 : decode prog_1_method_32_code 37 = .ok (.aload_n 2, 1) := by decide +kernel
theorem dK_runFirst_38 : decode prog_1_method_32_code 38 = .ok (.getfield 118, 3) := by decide +kernel
theorem dK_runFirst_41 : decode prog_1_method_32_code 41 = .ok (.iadd, 1) := by decide +kernel
theorem dK_runFirst_42 : decode prog_1_method_32_code 42 = .ok (.iaload, 1) := by decide +kernel
theorem dK_runFirst_43 : decode prog_1_method_32_code 43 = .ok (.istore 4, 2) := by decide +kernel
theorem dK_runFirst_45 : decode prog_1_method_32_code 45 = .ok (.aload_n 0, 1) := by decide +kernel
theorem dK_runFirst_46 : decode prog_1_method_32_code 46 = .ok (.iload_n 1, 1) := by decide +kernel
theorem dK_runFirst_47 : decode prog_1_method_32_code 47 = .ok (.iload 4, 2) := by decide +kernel
theorem dK_runFirst_49 : decode prog_1_method_32_code 49 = .ok (.invokevirtual 152, 3) := by decide +kernel
theorem dK_runFirst_52 : decode prog_1_method_32_code 52 = .ok (.istore 5, 2) := by decide +kernel
theorem dK_runFirst_54 : decode prog_1_method_32_code 54 = .ok (.iload 5, 2) := by decide +kernel
theorem dK_runFirst_56 : decode prog_1_method_32_code 56 = .ok (.ifCond .ne 32, 3) := by decide +kernel
theorem dK_runFirst_59 : decode prog_1_method_32_code 59 = .ok (.aload_n 2, 1) := by decide +kernel
theorem dK_runFirst_60 : decode prog_1_method_32_code 60 = .ok (.aload_n 2, 1) := by decide +kernel
theorem dK_runFirst_61 : decode prog_1_method_32_code 61 = .ok (.iload 4, 2) := by decide +kernel
theorem dK_runFirst_63 : decode prog_1_method_32_code 63 = .ok (.invokestatic 155, 3) := by decide +kernel
theorem dK_runFirst_66 : decode prog_1_method_32_code 66 = .ok (.putfield 118, 3) := by decide +kernel
theorem dK_runFirst_69 : decode prog_1_method_32_code 69 = .ok (.iload 4, 2) := by decide +kernel
theorem dK_runFirst_71 : decode prog_1_method_32_code 71 = .ok (.invokestatic 159, 3) := by decide +kernel
theorem dK_runFirst_74 : decode prog_1_method_32_code 74 = .ok (.bipush 13, 2) := by decide +kernel
theorem dK_runFirst_76 : decode prog_1_method_32_code 76 = .ok (.if_icmp .ne 7, 3) := by decide +kernel
theorem dK_runFirst_79 : decode prog_1_method_32_code 79 = .ok (.iconst 1, 1) := by decide +kernel
theorem dK_runFirst_80 : decode prog_1_method_32_code 80 = .ok (.goto 4, 3) := by decide +kernel
theorem dK_runFirst_83 : decode prog_1_method_32_code 83 = .ok (.iconst 0, 1) := by decide +kernel
theorem dK_runFirst_84 : decode prog_1_method_32_code 84 = .ok (.istore_n 3, 1) := by decide +kernel
theorem dK_runFirst_85 : decode prog_1_method_32_code 85 = .ok (.goto 9, 3) := by decide +kernel
theorem dK_runFirst_88 : decode prog_1_method_32_code 88 = .ok (.aload_n 2, 1) := by decide +kernel
theorem dK_runFirst_89 : decode prog_1_method_32_code 89 = .ok (.iload 5, 2) := by decide +kernel
theorem dK_runFirst_91 : decode prog_1_method_32_code 91 = .ok (.invokevirtual 146, 3) := by decide +kernel
theorem dK_runFirst_94 : decode prog_1_method_32_code 94 = .ok (.aload_n 0, 1) := by decide +kernel
theorem dK_runFirst_95 : decode prog_1_method_32_code 95 = .ok (.iload_n 1, 1) := by decide +kernel
theorem dK_runFirst_96 : decode prog_1_method_32_code 96 = .ok (.iload_n 3, 1) := by decide +kernel
theorem dK_runFirst_97 : decode prog_1_method_32_code 97 = .ok (.invokevirtual 162, 3) := by decide +kernel
theorem dK_runFirst_100 : decode prog_1_method_32_code 100 = .ok (.return_, 1) := by decide +kernel
theorem dT_isGood_0 : decode prog_5_method_5_code 0 = .ok (.lload_n 1, 1) := by decide +kernel
theorem dT_isGood_1 : decode prog_5_method_5_code 1 = .ok (.lconst 0, 1) := by decide +kernel
theorem dT_isGood_2 : decode prog_5_method_5_code 2 = .ok (.lcmp, 1) := by decide +kernel
theorem dT_isGood_3 : decode prog_5_method_5_code 3 = .ok (.ifCond .lt 17, 3) := by decide +kernel
theorem dT_isGood_6 : decode prog_5_method_5_code 6 = .ok (.lload_n 1, 1) := by decide +kernel
theorem dT_isGood_7 : decode prog_5_method_5_code 7 = .ok (.aload_n 0, 1) := by decide +kernel
theorem dT_isGood_8 : decode prog_5_method_5_code 8 = .ok (.getfield 31, 3) := by decide +kernel
theorem dT_isGood_11 : decode prog_5_method_5_code 11 = .ok (.i2l, 1) := by decide +kernel
theorem dT_isGood_12 : decode prog_5_method_5_code 12 = .ok (.lcmp, 1) := by decide +kernel
theorem dT_isGood_13 : decode prog_5_method_5_code 13 = .ok (.ifCond .ge 7, 3) := by decide +kernel
theorem dT_isGood_16 : decode prog_5_method_5_code 16 = .ok (.iconst 1, 1) := by decide +kernel
theorem dT_isGood_17 : decode prog_5_method_5_code 17 = .ok (.goto 4, 3) := by decide +kernel
theorem dT_isGood_20 : decode prog_5_method_5_code 20 = .ok (.iconst 0, 1) := by decide +kernel
theorem dT_isGood_21 : decode prog_5_method_5_code 21 = .ok (.ireturn, 1) := by decide +kernel
theorem dT_fail_0 : decode prog_5_method_3_code 0 = .ok (.aload_n 0, 1) := by decide +kernel
theorem dT_fail_1 : decode prog_5_method_3_code 1 = .ok (.iconst 5, 1) := by decide +kernel
theorem dT_fail_2 : decode prog_5_method_3_code 2 = .ok (.putfield 15, 3) := by decide +kernel
theorem dT_fail_5 : decode prog_5_method_3_code 5 = .ok (.aload_n 0, 1) := by decide +kernel
theorem dT_fail_6 : decode prog_5_method_3_code 6 = .ok (.iload_n 1, 1) := by decide +kernel
theorem dT_fail_7 : decode prog_5_method_3_code 7 = .ok (.putfield 19, 3) := by decide +kernel
theorem dT_fail_10 : decode prog_5_method_3_code 10 = .ok (.return_, 1) := by decide +kernel
theorem dK_perform_0 : decode prog_1_method_35_code 0 = .ok (.iload_n 2, 1) := by decide +kernel
theorem dK_perform_1 : decode prog_1_method_35_code 1 = .ok (.invokestatic 159, 3) := by decide +kernel
theorem dK_perform_4 : decode prog_1_method_35_code 4 = .ok (.tableswitch 142 8 22 #[76, 76, 142, 142, 142, 142, 88, 95, 95, 102, 109, 121, 128, 128, 135], 76) := by decide +kernel
theorem dK_perform_80 : decode prog_1_method_35_code 80 = .ok (.aload_n 0, 1) := by decide +kernel
theorem dK_perform_81 : decode prog_1_method_35_code 81 = .ok (.aload_n 0, 1) := by decide +kernel
theorem dK_perform_82 : decode prog_1_method_35_code 82 = .ok (.getfield 15, 3) := by decide +kernel
theorem dK_perform_85 : decode prog_1_method_35_code 85 = .ok (.iload_n 1, 1) := by decide +kernel
theorem dK_perform_86 : decode prog_1_method_35_code 86 = .ok (.aaload, 1) := by decide +kernel
theorem dK_perform_87 : decode prog_1_method_35_code 87 = .ok (.iload_n 2, 1) := by decide +kernel
theorem dK_perform_88 : decode prog_1_method_35_code 88 = .ok (.invokevirtual 175, 3) := by decide +kernel
theorem dK_perform_91 : decode prog_1_method_35_code 91 = .ok (.ireturn, 1) := by decide +kernel
theorem dK_perform_92 : decode prog_1_method_35_code 92 = .ok (.aload_n 0, 1) := by decide +kernel
theorem dK_perform_93 : decode prog_1_method_35_code 93 = .ok (.iload_n 1, 1) := by decide +kernel
theorem dK_perform_94 : decode prog_1_method_35_code 94 = .ok (.iload_n 2, 1) := by decide +kernel
theorem dK_perform_95 : decode prog_1_method_35_code 95 = .ok (.invokevirtual 178, 3) := by decide +kernel
theorem dK_perform_98 : decode prog_1_method_35_code 98 = .ok (.ireturn, 1) := by decide +kernel
theorem dK_perform_99 : decode prog_1_method_35_code 99 = .ok (.aload_n 0, 1) := by decide +kernel
theorem dK_perform_100 : decode prog_1_method_35_code 100 = .ok (.iload_n 1, 1) := by decide +kernel
theorem dK_perform_101 : decode prog_1_method_35_code 101 = .ok (.iload_n 2, 1) := by decide +kernel
theorem dK_perform_102 : decode prog_1_method_35_code 102 = .ok (.invokevirtual 181, 3) := by decide +kernel
theorem dK_perform_105 : decode prog_1_method_35_code 105 = .ok (.ireturn, 1) := by decide +kernel
theorem dK_perform_106 : decode prog_1_method_35_code 106 = .ok (.aload_n 0, 1) := by decide +kernel
theorem dK_perform_107 : decode prog_1_method_35_code 107 = .ok (.iload_n 1, 1) := by decide +kernel
theorem dK_perform_108 : decode prog_1_method_35_code 108 = .ok (.iload_n 2, 1) := by decide +kernel
theorem dK_perform_109 : decode prog_1_method_35_code 109 = .ok (.invokevirtual 184, 3) := by decide +kernel
theorem dK_perform_112 : decode prog_1_method_35_code 112 = .ok (.ireturn, 1) := by decide +kernel
theorem dK_perform_113 : decode prog_1_method_35_code 113 = .ok (.aload_n 0, 1) := by decide +kernel
theorem dK_perform_114 : decode prog_1_method_35_code 114 = .ok (.aload_n 0, 1) := by decide +kernel
theorem dK_perform_115 : decode prog_1_method_35_code 115 = .ok (.getfield 15, 3) := by decide +kernel
theorem dK_perform_118 : decode prog_1_method_35_code 118 = .ok (.iload_n 1, 1) := by decide +kernel
theorem dK_perform_119 : decode prog_1_method_35_code 119 = .ok (.aaload, 1) := by decide +kernel
theorem dK_perform_120 : decode prog_1_method_35_code 120 = .ok (.iload_n 2, 1) := by decide +kernel
theorem dK_perform_121 : decode prog_1_method_35_code 121 = .ok (.invokevirtual 187, 3) := by decide +kernel
theorem dK_perform_124 : decode prog_1_method_35_code 124 = .ok (.ireturn, 1) := by decide +kernel
theorem dK_perform_125 : decode prog_1_method_35_code 125 = .ok (.aload_n 0, 1) := by decide +kernel
theorem dK_perform_126 : decode prog_1_method_35_code 126 = .ok (.iload_n 1, 1) := by decide +kernel
theorem dK_perform_127 : decode prog_1_method_35_code 127 = .ok (.iload_n 2, 1) := by decide +kernel
theorem dK_perform_128 : decode prog_1_method_35_code 128 = .ok (.invokevirtual 190, 3) := by decide +kernel
theorem dK_perform_131 : decode prog_1_method_35_code 131 = .ok (.ireturn, 1) := by decide +kernel
theorem dK_perform_132 : decode prog_1_method_35_code 132 = .ok (.aload_n 0, 1) := by decide +kernel
theorem dK_perform_133 : decode prog_1_method_35_code 133 = .ok (.iload_n 1, 1) := by decide +kernel
theorem dK_perform_134 : decode prog_1_method_35_code 134 = .ok (.iload_n 2, 1) := by decide +kernel
theorem dK_perform_135 : decode prog_1_method_35_code 135 = .ok (.invokevirtual 193, 3) := by decide +kernel
theorem dK_perform_138 : decode prog_1_method_35_code 138 = .ok (.ireturn, 1) := by decide +kernel
theorem dK_perform_139 : decode prog_1_method_35_code 139 = .ok (.aload_n 0, 1) := by decide +kernel
theorem dK_perform_140 : decode prog_1_method_35_code 140 = .ok (.iload_n 1, 1) := by decide +kernel
theorem dK_perform_141 : decode prog_1_method_35_code 141 = .ok (.iload_n 2, 1) := by decide +kernel
theorem dK_perform_142 : decode prog_1_method_35_code 142 = .ok (.invokevirtual 196, 3) := by decide +kernel
theorem dK_perform_145 : decode prog_1_method_35_code 145 = .ok (.ireturn, 1) := by decide +kernel
theorem dK_perform_146 : decode prog_1_method_35_code 146 = .ok (.aload_n 0, 1) := by decide +kernel
theorem dK_perform_147 : decode prog_1_method_35_code 147 = .ok (.getfield 15, 3) := by decide +kernel
theorem dK_perform_150 : decode prog_1_method_35_code 150 = .ok (.iload_n 1, 1) := by decide +kernel
theorem dK_perform_151 : decode prog_1_method_35_code 151 = .ok (.aaload, 1) := by decide +kernel
theorem dK_perform_152 : decode prog_1_method_35_code 152 = .ok (.iload_n 2, 1) := by decide +kernel
theorem dK_perform_153 : decode prog_1_method_35_code 153 = .ok (.invokestatic 199, 3) := by decide +kernel
theorem dK_perform_156 : decode prog_1_method_35_code 156 = .ok (.ireturn, 1) := by decide +kernel
theorem dK_opOf_0 : decode prog_1_method_23_code 0 = .ok (.iload_n 0, 1) := by decide +kernel
theorem dK_opOf_1 : decode prog_1_method_23_code 1 = .ok (.bipush 31, 2) := by decide +kernel
theorem dK_opOf_3 : decode prog_1_method_23_code 3 = .ok (.iand, 1) := by decide +kernel
theorem dK_opOf_4 : decode prog_1_method_23_code 4 = .ok (.ireturn, 1) := by decide +kernel
theorem dK_access_0 : decode prog_1_method_37_code 0 = .ok (.aload_n 1, 1) := by decide +kernel
theorem dK_access_1 : decode prog_1_method_37_code 1 = .ok (.getfield 78, 3) := by decide +kernel
theorem dK_access_4 : decode prog_1_method_37_code 4 = .ok (.iload_n 2, 1) := by decide +kernel
theorem dK_access_5 : decode prog_1_method_37_code 5 = .ok (.invokestatic 202, 3) := by decide +kernel
theorem dK_access_8 : decode prog_1_method_37_code 8 = .ok (.iaload, 1) := by decide +kernel
theorem dK_access_9 : decode prog_1_method_37_code 9 = .ok (.i2l, 1) := by decide +kernel
theorem dK_access_10 : decode prog_1_method_37_code 10 = .ok (.iload_n 2, 1) := by decide +kernel
theorem dK_access_11 : decode prog_1_method_37_code 11 = .ok (.invokestatic 136, 3) := by decide +kernel
theorem dK_access_14 : decode prog_1_method_37_code 14 = .ok (.i2l, 1) := by decide +kernel
theorem dK_access_15 : decode prog_1_method_37_code 15 = .ok (.ladd, 1) := by decide +kernel
theorem dK_access_16 : decode prog_1_method_37_code 16 = .ok (.lstore_n 3, 1) := by decide +kernel
theorem dK_access_17 : decode prog_1_method_37_code 17 = .ok (.aload_n 1, 1) := by decide +kernel
theorem dK_access_18 : decode prog_1_method_37_code 18 = .ok (.lload_n 3, 1) := by decide +kernel
theorem dK_access_19 : decode prog_1_method_37_code 19 = .ok (.invokevirtual 142, 3) := by decide +kernel
theorem dK_access_22 : decode prog_1_method_37_code 22 = .ok (.ifCond .ne 5, 3) := by decide +kernel
theorem dK_access_25 : decode prog_1_method_37_code 25 = .ok (.iconst 2, 1) := by decide +kernel
theorem dK_access_26 : decode prog_1_method_37_code 26 = .ok (.ireturn, 1) := by decide +kernel
theorem dK_access_27 : decode prog_1_method_37_code 27 = .ok (.aload_n 1, 1) := by decide +kernel
theorem dK_access_28 : decode prog_1_method_37_code 28 = .ok (.getfield 149, 3) := by decide +kernel
theorem dK_access_31 : decode prog_1_method_37_code 31 = .ok (.lload_n 3, 1) := by decide +kernel
theorem dK_access_32 : decode prog_1_method_37_code 32 = .ok (.l2i, 1) := by decide +kernel
theorem dK_access_33 : decode prog_1_method_37_code 33 = .ok (.iadd, 1) := by decide +kernel
theorem dK_access_34 : decode prog_1_method_37_code 34 = .ok (.istore 5, 2) := by decide +kernel
theorem dK_access_36 : decode prog_1_method_37_code 36 = .ok (.iload_n 2, 1) := by decide +kernel
theorem dK_access_37 : decode prog_1_method_37_code 37 = .ok (.invokestatic 159, 3) := by decide +kernel
theorem dK_access_40 : decode prog_1_method_37_code 40 = .ok (.bipush 8, 2) := by decide +kernel
theorem dK_access_42 : decode prog_1_method_37_code 42 = .ok (.if_icmp .ne 22, 3) := by decide +kernel
theorem dK_access_45 : decode prog_1_method_37_code 45 = .ok (.aload_n 1, 1) := by decide +kernel
theorem dK_access_46 : decode prog_1_method_37_code 46 = .ok (.getfield 78, 3) := by decide +kernel
theorem dK_access_49 : decode prog_1_method_37_code 49 = .ok (.iload_n 2, 1) := by decide +kernel
theorem dK_access_50 : decode prog_1_method_37_code 50 = .ok (.invokestatic 172, 3) := by decide +kernel
theorem dK_access_53 : decode prog_1_method_37_code 53 = .ok (.aload_n 0, 1) := by decide +kernel
theorem dK_access_54 : decode prog_1_method_37_code 54 = .ok (.getfield 9, 3) := by decide +kernel
theorem dK_access_57 : decode prog_1_method_37_code 57 = .ok (.iload 5, 2) := by decide +kernel
theorem dK_access_59 : decode prog_1_method_37_code 59 = .ok (.iaload, 1) := by decide +kernel
theorem dK_access_60 : decode prog_1_method_37_code 60 = .ok (.iastore, 1) := by decide +kernel
theorem dK_access_61 : decode prog_1_method_37_code 61 = .ok (.goto 19, 3) := by decide +kernel
theorem dK_access_64 : decode prog_1_method_37_code 64 = .ok (.aload_n 0, 1) := by decide +kernel
theorem dK_access_65 : decode prog_1_method_37_code 65 = .ok (.getfield 9, 3) := by decide +kernel
theorem dK_access_68 : decode prog_1_method_37_code 68 = .ok (.iload 5, 2) := by decide +kernel
theorem dK_access_70 : decode prog_1_method_37_code 70 = .ok (.aload_n 1, 1) := by decide +kernel
theorem dK_access_71 : decode prog_1_method_37_code 71 = .ok (.getfield 78, 3) := by decide +kernel
theorem dK_access_74 : decode prog_1_method_37_code 74 = .ok (.iload_n 2, 1) := by decide +kernel
theorem dK_access_75 : decode prog_1_method_37_code 75 = .ok (.invokestatic 172, 3) := by decide +kernel
theorem dK_access_78 : decode prog_1_method_37_code 78 = .ok (.iaload, 1) := by decide +kernel
theorem dK_access_79 : decode prog_1_method_37_code 79 = .ok (.iastore, 1) := by decide +kernel
theorem dK_access_80 : decode prog_1_method_37_code 80 = .ok (.iconst 0, 1) := by decide +kernel
theorem dK_access_81 : decode prog_1_method_37_code 81 = .ok (.ireturn, 1) := by decide +kernel
theorem dK_fieldB_0 : decode prog_1_method_25_code 0 = .ok (.iload_n 0, 1) := by decide +kernel
theorem dK_fieldB_1 : decode prog_1_method_25_code 1 = .ok (.bipush 8, 2) := by decide +kernel
theorem dK_fieldB_3 : decode prog_1_method_25_code 3 = .ok (.ishr, 1) := by decide +kernel
theorem dK_fieldB_4 : decode prog_1_method_25_code 4 = .ok (.bipush 7, 2) := by decide +kernel
theorem dK_fieldB_6 : decode prog_1_method_25_code 6 = .ok (.iand, 1) := by decide +kernel
theorem dK_fieldB_7 : decode prog_1_method_25_code 7 = .ok (.ireturn, 1) := by decide +kernel
theorem dK_numberOf_0 : decode prog_1_method_27_code 0 = .ok (.iload_n 0, 1) := by decide +kernel
theorem dK_numberOf_1 : decode prog_1_method_27_code 1 = .ok (.bipush 14, 2) := by decide +kernel
theorem dK_numberOf_3 : decode prog_1_method_27_code 3 = .ok (.ishr, 1) := by decide +kernel
theorem dK_numberOf_4 : decode prog_1_method_27_code 4 = .ok (.ireturn, 1) := by decide +kernel
theorem dK_fieldA_0 : decode prog_1_method_24_code 0 = .ok (.iload_n 0, 1) := by decide +kernel
theorem dK_fieldA_1 : decode prog_1_method_24_code 1 = .ok (.iconst 5, 1) := by decide +kernel
theorem dK_fieldA_2 : decode prog_1_method_24_code 2 = .ok (.ishr, 1) := by decide +kernel
theorem dK_fieldA_3 : decode prog_1_method_24_code 3 = .ok (.bipush 7, 2) := by decide +kernel
theorem dK_fieldA_5 : decode prog_1_method_24_code 5 = .ok (.iand, 1) := by decide +kernel
theorem dK_fieldA_6 : decode prog_1_method_24_code 6 = .ok (.ireturn, 1) := by decide +kernel
theorem dK_printBy_0 : decode prog_1_method_38_code 0 = .ok (.aload_n 0, 1) := by decide +kernel
theorem dK_printBy_1 : decode prog_1_method_38_code 1 = .ok (.getfield 33, 3) := by decide +kernel
theorem dK_printBy_4 : decode prog_1_method_38_code 4 = .ok (.iload_n 1, 1) := by decide +kernel
theorem dK_printBy_5 : decode prog_1_method_38_code 5 = .ok (.iload_n 2, 1) := by decide +kernel
theorem dK_printBy_6 : decode prog_1_method_38_code 6 = .ok (.invokestatic 172, 3) := by decide +kernel
theorem dK_printBy_9 : decode prog_1_method_38_code 9 = .ok (.invokestatic 102, 3) := by decide +kernel
theorem dK_printBy_12 : decode prog_1_method_38_code 12 = .ok (.iconst 2, 1) := by decide +kernel
theorem dK_printBy_13 : decode prog_1_method_38_code 13 = .ok (.iconst 1, 1) := by decide +kernel
theorem dK_printBy_14 : decode prog_1_method_38_code 14 = .ok (.invokevirtual 208, 3) := by decide +kernel
theorem dK_printBy_17 : decode prog_1_method_38_code 17 = .ok (.ifCond .ne 5, 3) := by decide +kernel
theorem dK_printBy_20 : decode prog_1_method_38_code 20 = .ok (.iconst 4, 1) := by decide +kernel
theorem dK_printBy_21 : decode prog_1_method_38_code 21 = .ok (.ireturn, 1) := by decide +kernel
theorem dK_printBy_22 : decode prog_1_method_38_code 22 = .ok (.aload_n 0, 1) := by decide +kernel
theorem dK_printBy_23 : decode prog_1_method_38_code 23 = .ok (.getfield 40, 3) := by decide +kernel
theorem dK_printBy_26 : decode prog_1_method_38_code 26 = .ok (.aload_n 0, 1) := by decide +kernel
theorem dK_printBy_27 : decode prog_1_method_38_code 27 = .ok (.getfield 15, 3) := by decide +kernel
theorem dK_printBy_30 : decode prog_1_method_38_code 30 = .ok (.iload_n 1, 1) := by decide +kernel
theorem dK_printBy_31 : decode prog_1_method_38_code 31 = .ok (.aaload, 1) := by decide +kernel
theorem dK_printBy_32 : decode prog_1_method_38_code 32 = .ok (.getfield 78, 3) := by decide +kernel
theorem dK_printBy_35 : decode prog_1_method_38_code 35 = .ok (.iload_n 2, 1) := by decide +kernel
theorem dK_printBy_36 : decode prog_1_method_38_code 36 = .ok (.invokestatic 202, 3) := by decide +kernel
theorem dK_printBy_39 : decode prog_1_method_38_code 39 = .ok (.iaload, 1) := by decide +kernel
theorem dK_printBy_40 : decode prog_1_method_38_code 40 = .ok (.invokevirtual 211, 3) := by decide +kernel
theorem dK_printBy_43 : decode prog_1_method_38_code 43 = .ok (.iconst 0, 1) := by decide +kernel
theorem dK_printBy_44 : decode prog_1_method_38_code 44 = .ok (.ireturn, 1) := by decide +kernel
theorem dG_allows_0 : decode prog_2_method_4_code 0 = .ok (.aload_n 0, 1) := by decide +kernel
theorem dG_allows_1 : decode prog_2_method_4_code 1 = .ok (.getfield 9, 3) := by decide +kernel
theorem dG_allows_4 : decode prog_2_method_4_code 4 = .ok (.iload_n 1, 1) := by decide +kernel
theorem dG_allows_5 : decode prog_2_method_4_code 5 = .ok (.iaload, 1) := by decide +kernel
theorem dG_allows_6 : decode prog_2_method_4_code 6 = .ok (.iload_n 2, 1) := by decide +kernel
theorem dG_allows_7 : decode prog_2_method_4_code 7 = .ok (.if_icmp .ne 19, 3) := by decide +kernel
theorem dG_allows_10 : decode prog_2_method_4_code 10 = .ok (.aload_n 0, 1) := by decide +kernel
theorem dG_allows_11 : decode prog_2_method_4_code 11 = .ok (.getfield 18, 3) := by decide +kernel
theorem dG_allows_14 : decode prog_2_method_4_code 14 = .ok (.iload_n 1, 1) := by decide +kernel
theorem dG_allows_15 : decode prog_2_method_4_code 15 = .ok (.iaload, 1) := by decide +kernel
theorem dG_allows_16 : decode prog_2_method_4_code 16 = .ok (.iload_n 3, 1) := by decide +kernel
theorem dG_allows_17 : decode prog_2_method_4_code 17 = .ok (.iand, 1) := by decide +kernel
theorem dG_allows_18 : decode prog_2_method_4_code 18 = .ok (.iload_n 3, 1) := by decide +kernel
theorem dG_allows_19 : decode prog_2_method_4_code 19 = .ok (.if_icmp .ne 7, 3) := by decide +kernel
theorem dG_allows_22 : decode prog_2_method_4_code 22 = .ok (.iconst 1, 1) := by decide +kernel
theorem dG_allows_23 : decode prog_2_method_4_code 23 = .ok (.goto 4, 3) := by decide +kernel
theorem dG_allows_26 : decode prog_2_method_4_code 26 = .ok (.iconst 0, 1) := by decide +kernel
theorem dG_allows_27 : decode prog_2_method_4_code 27 = .ok (.ireturn, 1) := by decide +kernel
theorem dP_append_0 : decode prog_4_method_2_code 0 = .ok (.aload_n 0, 1) := by decide +kernel
theorem dP_append_1 : decode prog_4_method_2_code 1 = .ok (.getfield 9, 3) := by decide +kernel
theorem dP_append_4 : decode prog_4_method_2_code 4 = .ok (.aload_n 0, 1) := by decide +kernel
theorem dP_append_5 : decode prog_4_method_2_code 5 = .ok (.getfield 15, 3) := by decide +kernel
theorem dP_append_8 : decode prog_4_method_2_code 8 = .ok (.bipush 16, 2) := by decide +kernel
theorem dP_append_10 : decode prog_4_method_2_code 10 = .ok (.irem, 1) := by decide +kernel
theorem dP_append_11 : decode prog_4_method_2_code 11 = .ok (.iload_n 1, 1) := by decide +kernel
theorem dP_append_12 : decode prog_4_method_2_code 12 = .ok (.iastore, 1) := by decide +kernel
theorem dP_append_13 : decode prog_4_method_2_code 13 = .ok (.aload_n 0, 1) := by decide +kernel
theorem dP_append_14 : decode prog_4_method_2_code 14 = .ok (.dup, 1) := by decide +kernel
theorem dP_append_15 : decode prog_4_method_2_code 15 = .ok (.getfield 15, 3) := by decide +kernel
theorem dP_append_18 : decode prog_4_method_2_code 18 = .ok (.iconst 1, 1) := by decide +kernel
theorem dP_append_19 : decode prog_4_method_2_code 19 = .ok (.iadd, 1) := by decide +kernel
theorem dP_append_20 : decode prog_4_method_2_code 20 = .ok (.putfield 15, 3) := by decide +kernel
theorem dP_append_23 : decode prog_4_method_2_code 23 = .ok (.return_, 1) := by decide +kernel
theorem dK_sendBy_0 : decode prog_1_method_39_code 0 = .ok (.iload_n 1, 1) := by decide +kernel
theorem dK_sendBy_1 : decode prog_1_method_39_code 1 = .ok (.iload_n 2, 1) := by decide +kernel
theorem dK_sendBy_2 : decode prog_1_method_39_code 2 = .ok (.invokestatic 172, 3) := by decide +kernel
theorem dK_sendBy_5 : decode prog_1_method_39_code 5 = .ok (.invokestatic 102, 3) := by decide +kernel
theorem dK_sendBy_8 : decode prog_1_method_39_code 8 = .ok (.istore_n 3, 1) := by decide +kernel
theorem dK_sendBy_9 : decode prog_1_method_39_code 9 = .ok (.iload_n 2, 1) := by decide +kernel
theorem dK_sendBy_10 : decode prog_1_method_39_code 10 = .ok (.invokestatic 212, 3) := by decide +kernel
theorem dK_sendBy_13 : decode prog_1_method_39_code 13 = .ok (.ifCond .eq 7, 3) := by decide +kernel
theorem dK_sendBy_16 : decode prog_1_method_39_code 16 = .ok (.iconst 5, 1) := by decide +kernel
theorem dK_sendBy_17 : decode prog_1_method_39_code 17 = .ok (.goto 4, 3) := by decide +kernel
theorem dK_sendBy_20 : decode prog_1_method_39_code 20 = .ok (.iconst 1, 1) := by decide +kernel
theorem dK_sendBy_21 : decode prog_1_method_39_code 21 = .ok (.istore 4, 2) := by decide +kernel
theorem dK_sendBy_23 : decode prog_1_method_39_code 23 = .ok (.aload_n 0, 1) := by decide +kernel
theorem dK_sendBy_24 : decode prog_1_method_39_code 24 = .ok (.getfield 33, 3) := by decide +kernel
theorem dK_sendBy_27 : decode prog_1_method_39_code 27 = .ok (.iload_n 3, 1) := by decide +kernel
theorem dK_sendBy_28 : decode prog_1_method_39_code 28 = .ok (.iconst 1, 1) := by decide +kernel
theorem dK_sendBy_29 : decode prog_1_method_39_code 29 = .ok (.iload 4, 2) := by decide +kernel
theorem dK_sendBy_31 : decode prog_1_method_39_code 31 = .ok (.invokevirtual 208, 3) := by decide +kernel
theorem dK_sendBy_34 : decode prog_1_method_39_code 34 = .ok (.ifCond .ne 5, 3) := by decide +kernel
theorem dK_sendBy_37 : decode prog_1_method_39_code 37 = .ok (.iconst 4, 1) := by decide +kernel
theorem dK_sendBy_38 : decode prog_1_method_39_code 38 = .ok (.ireturn, 1) := by decide +kernel
theorem dK_sendBy_39 : decode prog_1_method_39_code 39 = .ok (.aload_n 0, 1) := by decide +kernel
theorem dK_sendBy_40 : decode prog_1_method_39_code 40 = .ok (.getfield 15, 3) := by decide +kernel
theorem dK_sendBy_43 : decode prog_1_method_39_code 43 = .ok (.iload_n 1, 1) := by decide +kernel
theorem dK_sendBy_44 : decode prog_1_method_39_code 44 = .ok (.aaload, 1) := by decide +kernel
theorem dK_sendBy_45 : decode prog_1_method_39_code 45 = .ok (.astore 5, 2) := by decide +kernel
theorem dK_sendBy_47 : decode prog_1_method_39_code 47 = .ok (.aload 5, 2) := by decide +kernel
theorem dK_sendBy_49 : decode prog_1_method_39_code 49 = .ok (.iload_n 2, 1) := by decide +kernel
theorem dK_sendBy_50 : decode prog_1_method_39_code 50 = .ok (.putfield 215, 3) := by decide +kernel
theorem dK_sendBy_53 : decode prog_1_method_39_code 53 = .ok (.aload 5, 2) := by decide +kernel
theorem dK_sendBy_55 : decode prog_1_method_39_code 55 = .ok (.aload 5, 2) := by decide +kernel
theorem dK_sendBy_57 : decode prog_1_method_39_code 57 = .ok (.getfield 78, 3) := by decide +kernel
theorem dK_sendBy_60 : decode prog_1_method_39_code 60 = .ok (.iload_n 2, 1) := by decide +kernel
theorem dK_sendBy_61 : decode prog_1_method_39_code 61 = .ok (.invokestatic 202, 3) := by decide +kernel
theorem dK_sendBy_64 : decode prog_1_method_39_code 64 = .ok (.iaload, 1) := by decide +kernel
theorem dK_sendBy_65 : decode prog_1_method_39_code 65 = .ok (.putfield 218, 3) := by decide +kernel
theorem dK_sendBy_68 : decode prog_1_method_39_code 68 = .ok (.aload_n 0, 1) := by decide +kernel
theorem dK_sendBy_69 : decode prog_1_method_39_code 69 = .ok (.getfield 26, 3) := by decide +kernel
theorem dK_sendBy_72 : decode prog_1_method_39_code 72 = .ok (.aload_n 0, 1) := by decide +kernel
theorem dK_sendBy_73 : decode prog_1_method_39_code 73 = .ok (.getfield 33, 3) := by decide +kernel
theorem dK_sendBy_76 : decode prog_1_method_39_code 76 = .ok (.iload_n 3, 1) := by decide +kernel
theorem dK_sendBy_77 : decode prog_1_method_39_code 77 = .ok (.invokevirtual 221, 3) := by decide +kernel
theorem dK_sendBy_80 : decode prog_1_method_39_code 80 = .ok (.aaload, 1) := by decide +kernel
theorem dK_sendBy_81 : decode prog_1_method_39_code 81 = .ok (.astore 6, 2) := by decide +kernel
theorem dK_sendBy_83 : decode prog_1_method_39_code 83 = .ok (.aload_n 0, 1) := by decide +kernel
theorem dK_sendBy_84 : decode prog_1_method_39_code 84 = .ok (.aload 6, 2) := by decide +kernel
theorem dK_sendBy_86 : decode prog_1_method_39_code 86 = .ok (.iconst 4, 1) := by decide +kernel
theorem dK_sendBy_87 : decode prog_1_method_39_code 87 = .ok (.invokevirtual 224, 3) := by decide +kernel
theorem dK_sendBy_90 : decode prog_1_method_39_code 90 = .ok (.istore 7, 2) := by decide +kernel
theorem dK_sendBy_92 : decode prog_1_method_39_code 92 = .ok (.iload 7, 2) := by decide +kernel
theorem dK_sendBy_94 : decode prog_1_method_39_code 94 = .ok (.iconst (-1), 1) := by decide +kernel
theorem dK_sendBy_95 : decode prog_1_method_39_code 95 = .ok (.if_icmp .ne 17, 3) := by decide +kernel
theorem dK_sendBy_98 : decode prog_1_method_39_code 98 = .ok (.aload 5, 2) := by decide +kernel
theorem dK_sendBy_100 : decode prog_1_method_39_code 100 = .ok (.iconst 2, 1) := by decide +kernel
theorem dK_sendBy_101 : decode prog_1_method_39_code 101 = .ok (.putfield 96, 3) := by decide +kernel
theorem dK_sendBy_104 : decode prog_1_method_39_code 104 = .ok (.aload 6, 2) := by decide +kernel
theorem dK_sendBy_106 : decode prog_1_method_39_code 106 = .ok (.iload_n 1, 1) := by decide +kernel
theorem dK_sendBy_107 : decode prog_1_method_39_code 107 = .ok (.invokevirtual 139, 3) := by decide +kernel
theorem dK_sendBy_110 : decode prog_1_method_39_code 110 = .ok (.iconst 0, 1) := by decide +kernel
theorem dK_sendBy_111 : decode prog_1_method_39_code 111 = .ok (.ireturn, 1) := by decide +kernel
theorem dK_sendBy_112 : decode prog_1_method_39_code 112 = .ok (.aload_n 0, 1) := by decide +kernel
theorem dK_sendBy_113 : decode prog_1_method_39_code 113 = .ok (.iload_n 1, 1) := by decide +kernel
theorem dK_sendBy_114 : decode prog_1_method_39_code 114 = .ok (.iload 7, 2) := by decide +kernel
theorem dK_sendBy_116 : decode prog_1_method_39_code 116 = .ok (.invokevirtual 228, 3) := by decide +kernel
theorem dK_sendBy_119 : decode prog_1_method_39_code 119 = .ok (.aload_n 0, 1) := by decide +kernel
theorem dK_sendBy_120 : decode prog_1_method_39_code 120 = .ok (.iload 7, 2) := by decide +kernel
theorem dK_sendBy_122 : decode prog_1_method_39_code 122 = .ok (.invokevirtual 70, 3) := by decide +kernel
theorem dK_sendBy_125 : decode prog_1_method_39_code 125 = .ok (.iload_n 2, 1) := by decide +kernel
theorem dK_sendBy_126 : decode prog_1_method_39_code 126 = .ok (.invokestatic 159, 3) := by decide +kernel
theorem dK_sendBy_129 : decode prog_1_method_39_code 129 = .ok (.bipush 16, 2) := by decide +kernel
theorem dK_sendBy_131 : decode prog_1_method_39_code 131 = .ok (.if_icmp .ne 9, 3) := by decide +kernel
theorem dK_sendBy_134 : decode prog_1_method_39_code 134 = .ok (.aload 5, 2) := by decide +kernel
theorem dK_sendBy_136 : decode prog_1_method_39_code 136 = .ok (.iconst 3, 1) := by decide +kernel
theorem dK_sendBy_137 : decode prog_1_method_39_code 137 = .ok (.putfield 96, 3) := by decide +kernel
theorem dK_sendBy_140 : decode prog_1_method_39_code 140 = .ok (.iconst 0, 1) := by decide +kernel
theorem dK_sendBy_141 : decode prog_1_method_39_code 141 = .ok (.ireturn, 1) := by decide +kernel
theorem dK_isNumberOdd_0 : decode prog_1_method_28_code 0 = .ok (.iload_n 0, 1) := by decide +kernel
theorem dK_isNumberOdd_1 : decode prog_1_method_28_code 1 = .ok (.invokestatic 136, 3) := by decide +kernel
theorem dK_isNumberOdd_4 : decode prog_1_method_28_code 4 = .ok (.iconst 1, 1) := by decide +kernel
theorem dK_isNumberOdd_5 : decode prog_1_method_28_code 5 = .ok (.iand, 1) := by decide +kernel
theorem dK_isNumberOdd_6 : decode prog_1_method_28_code 6 = .ok (.ifCond .eq 7, 3) := by decide +kernel
theorem dK_isNumberOdd_9 : decode prog_1_method_28_code 9 = .ok (.iconst 1, 1) := by decide +kernel
theorem dK_isNumberOdd_10 : decode prog_1_method_28_code 10 = .ok (.goto 4, 3) := by decide +kernel
theorem dK_isNumberOdd_13 : decode prog_1_method_28_code 13 = .ok (.iconst 0, 1) := by decide +kernel
theorem dK_isNumberOdd_14 : decode prog_1_method_28_code 14 = .ok (.ireturn, 1) := by decide +kernel
theorem dG_objectAt_0 : decode prog_2_method_3_code 0 = .ok (.aload_n 0, 1) := by decide +kernel
theorem dG_objectAt_1 : decode prog_2_method_3_code 1 = .ok (.getfield 15, 3) := by decide +kernel
theorem dG_objectAt_4 : decode prog_2_method_3_code 4 = .ok (.iload_n 1, 1) := by decide +kernel
theorem dG_objectAt_5 : decode prog_2_method_3_code 5 = .ok (.iaload, 1) := by decide +kernel
theorem dG_objectAt_6 : decode prog_2_method_3_code 6 = .ok (.ireturn, 1) := by decide +kernel
theorem dK_takeWaiting_0 : decode prog_1_method_41_code 0 = .ok (.aload_n 1, 1) := by decide +kernel
theorem dK_takeWaiting_1 : decode prog_1_method_41_code 1 = .ok (.iconst 0, 1) := by decide +kernel
theorem dK_takeWaiting_2 : decode prog_1_method_41_code 2 = .ok (.invokevirtual 108, 3) := by decide +kernel
theorem dK_takeWaiting_5 : decode prog_1_method_41_code 5 = .ok (.istore_n 3, 1) := by decide +kernel
theorem dK_takeWaiting_6 : decode prog_1_method_41_code 6 = .ok (.iload_n 3, 1) := by decide +kernel
theorem dK_takeWaiting_7 : decode prog_1_method_41_code 7 = .ok (.iconst (-1), 1) := by decide +kernel
theorem dK_takeWaiting_8 : decode prog_1_method_41_code 8 = .ok (.if_icmp .eq 16, 3) := by decide +kernel
theorem dK_takeWaiting_11 : decode prog_1_method_41_code 11 = .ok (.aload_n 0, 1) := by decide +kernel
theorem dK_takeWaiting_12 : decode prog_1_method_41_code 12 = .ok (.getfield 15, 3) := by decide +kernel
theorem dK_takeWaiting_15 : decode prog_1_method_41_code 15 = .ok (.iload_n 3, 1) := by decide +kernel
