theorem dK_takeWaiting_16 : decode prog_1_method_41_code 16 = .ok (.aaload, 1) := by decide +kernel
theorem dK_takeWaiting_17 : decode prog_1_method_41_code 17 = .ok (.getfield 96, 3) := by decide +kernel
theorem dK_takeWaiting_20 : decode prog_1_method_41_code 20 = .ok (.iload_n 2, 1) := by decide +kernel
theorem dK_takeWaiting_21 : decode prog_1_method_41_code 21 = .ok (.if_icmp .eq 5, 3) := by decide +kernel
theorem dK_takeWaiting_24 : decode prog_1_method_41_code 24 = .ok (.iconst (-1), 1) := by decide +kernel
theorem dK_takeWaiting_25 : decode prog_1_method_41_code 25 = .ok (.ireturn, 1) := by decide +kernel
theorem dK_takeWaiting_26 : decode prog_1_method_41_code 26 = .ok (.aload_n 1, 1) := by decide +kernel
theorem dK_takeWaiting_27 : decode prog_1_method_41_code 27 = .ok (.invokevirtual 169, 3) := by decide +kernel
theorem dK_takeWaiting_30 : decode prog_1_method_41_code 30 = .ok (.iload_n 3, 1) := by decide +kernel
theorem dK_takeWaiting_31 : decode prog_1_method_41_code 31 = .ok (.ireturn, 1) := by decide +kernel
theorem dN_takeFirst_0 : decode prog_3_method_4_code 0 = .ok (.aload_n 0, 1) := by decide +kernel
theorem dN_takeFirst_1 : decode prog_3_method_4_code 1 = .ok (.getfield 15, 3) := by decide +kernel
theorem dN_takeFirst_4 : decode prog_3_method_4_code 4 = .ok (.ifCond .ne 4, 3) := by decide +kernel
theorem dN_takeFirst_7 : decode prog_3_method_4_code 7 = .ok (.return_, 1) := by decide +kernel
theorem dN_takeFirst_8 : decode prog_3_method_4_code 8 = .ok (.aload_n 0, 1) := by decide +kernel
theorem dN_takeFirst_9 : decode prog_3_method_4_code 9 = .ok (.dup, 1) := by decide +kernel
theorem dN_takeFirst_10 : decode prog_3_method_4_code 10 = .ok (.getfield 15, 3) := by decide +kernel
theorem dN_takeFirst_13 : decode prog_3_method_4_code 13 = .ok (.iconst 1, 1) := by decide +kernel
theorem dN_takeFirst_14 : decode prog_3_method_4_code 14 = .ok (.isub, 1) := by decide +kernel
theorem dN_takeFirst_15 : decode prog_3_method_4_code 15 = .ok (.putfield 15, 3) := by decide +kernel
theorem dN_takeFirst_18 : decode prog_3_method_4_code 18 = .ok (.iconst 0, 1) := by decide +kernel
theorem dN_takeFirst_19 : decode prog_3_method_4_code 19 = .ok (.istore_n 1, 1) := by decide +kernel
theorem dN_takeFirst_20 : decode prog_3_method_4_code 20 = .ok (.iload_n 1, 1) := by decide +kernel
theorem dN_takeFirst_21 : decode prog_3_method_4_code 21 = .ok (.aload_n 0, 1) := by decide +kernel
theorem dN_takeFirst_22 : decode prog_3_method_4_code 22 = .ok (.getfield 15, 3) := by decide +kernel
theorem dN_takeFirst_25 : decode prog_3_method_4_code 25 = .ok (.if_icmp .ge 23, 3) := by decide +kernel
theorem dN_takeFirst_28 : decode prog_3_method_4_code 28 = .ok (.aload_n 0, 1) := by decide +kernel
theorem dN_takeFirst_29 : decode prog_3_method_4_code 29 = .ok (.getfield 9, 3) := by decide +kernel
theorem dN_takeFirst_32 : decode prog_3_method_4_code 32 = .ok (.iload_n 1, 1) := by decide +kernel
theorem dN_takeFirst_33 : decode prog_3_method_4_code 33 = .ok (.aload_n 0, 1) := by decide +kernel
theorem dN_takeFirst_34 : decode prog_3_method_4_code 34 = .ok (.getfield 9, 3) := by decide +kernel
theorem dN_takeFirst_37 : decode prog_3_method_4_code 37 = .ok (.iload_n 1, 1) := by decide +kernel
theorem dN_takeFirst_38 : decode prog_3_method_4_code 38 = .ok (.iconst 1, 1) := by decide +kernel
theorem dN_takeFirst_39 : decode prog_3_method_4_code 39 = .ok (.iadd, 1) := by decide +kernel
theorem dN_takeFirst_40 : decode prog_3_method_4_code 40 = .ok (.iaload, 1) := by decide +kernel
theorem dN_takeFirst_41 : decode prog_3_method_4_code 41 = .ok (.iastore, 1) := by decide +kernel
theorem dN_takeFirst_42 : decode prog_3_method_4_code 42 = .ok (.iinc 1 1, 3) := by decide +kernel
theorem dN_takeFirst_45 : decode prog_3_method_4_code 45 = .ok (.goto (-25), 3) := by decide +kernel
theorem dN_takeFirst_48 : decode prog_3_method_4_code 48 = .ok (.return_, 1) := by decide +kernel
theorem dK_pass_0 : decode prog_1_method_42_code 0 = .ok (.aload_n 0, 1) := by decide +kernel
theorem dK_pass_1 : decode prog_1_method_42_code 1 = .ok (.getfield 15, 3) := by decide +kernel
theorem dK_pass_4 : decode prog_1_method_42_code 4 = .ok (.iload_n 1, 1) := by decide +kernel
theorem dK_pass_5 : decode prog_1_method_42_code 5 = .ok (.aaload, 1) := by decide +kernel
theorem dK_pass_6 : decode prog_1_method_42_code 6 = .ok (.astore_n 3, 1) := by decide +kernel
theorem dK_pass_7 : decode prog_1_method_42_code 7 = .ok (.aload_n 0, 1) := by decide +kernel
theorem dK_pass_8 : decode prog_1_method_42_code 8 = .ok (.getfield 15, 3) := by decide +kernel
theorem dK_pass_11 : decode prog_1_method_42_code 11 = .ok (.iload_n 2, 1) := by decide +kernel
theorem dK_pass_12 : decode prog_1_method_42_code 12 = .ok (.aaload, 1) := by decide +kernel
theorem dK_pass_13 : decode prog_1_method_42_code 13 = .ok (.astore 4, 2) := by decide +kernel
theorem dK_pass_15 : decode prog_1_method_42_code 15 = .ok (.iload_n 1, 1) := by decide +kernel
theorem dK_pass_16 : decode prog_1_method_42_code 16 = .ok (.aload_n 3, 1) := by decide +kernel
theorem dK_pass_17 : decode prog_1_method_42_code 17 = .ok (.getfield 215, 3) := by decide +kernel
theorem dK_pass_20 : decode prog_1_method_42_code 20 = .ok (.invokestatic 205, 3) := by decide +kernel
theorem dK_pass_23 : decode prog_1_method_42_code 23 = .ok (.invokestatic 102, 3) := by decide +kernel
theorem dK_pass_26 : decode prog_1_method_42_code 26 = .ok (.istore 5, 2) := by decide +kernel
theorem dK_pass_28 : decode prog_1_method_42_code 28 = .ok (.iload_n 2, 1) := by decide +kernel
theorem dK_pass_29 : decode prog_1_method_42_code 29 = .ok (.aload 4, 2) := by decide +kernel
theorem dK_pass_31 : decode prog_1_method_42_code 31 = .ok (.getfield 215, 3) := by decide +kernel
theorem dK_pass_34 : decode prog_1_method_42_code 34 = .ok (.invokestatic 205, 3) := by decide +kernel
theorem dK_pass_37 : decode prog_1_method_42_code 37 = .ok (.invokestatic 102, 3) := by decide +kernel
theorem dK_pass_40 : decode prog_1_method_42_code 40 = .ok (.istore 6, 2) := by decide +kernel
theorem dK_pass_42 : decode prog_1_method_42_code 42 = .ok (.aload_n 3, 1) := by decide +kernel
theorem dK_pass_43 : decode prog_1_method_42_code 43 = .ok (.getfield 215, 3) := by decide +kernel
theorem dK_pass_46 : decode prog_1_method_42_code 46 = .ok (.invokestatic 212, 3) := by decide +kernel
theorem dK_pass_49 : decode prog_1_method_42_code 49 = .ok (.ifCond .eq 31, 3) := by decide +kernel
theorem dK_pass_52 : decode prog_1_method_42_code 52 = .ok (.aload_n 0, 1) := by decide +kernel
theorem dK_pass_53 : decode prog_1_method_42_code 53 = .ok (.getfield 33, 3) := by decide +kernel
theorem dK_pass_56 : decode prog_1_method_42_code 56 = .ok (.iload 5, 2) := by decide +kernel
theorem dK_pass_58 : decode prog_1_method_42_code 58 = .ok (.invokevirtual 84, 3) := by decide +kernel
theorem dK_pass_61 : decode prog_1_method_42_code 61 = .ok (.ifCond .eq 19, 3) := by decide +kernel
theorem dK_pass_64 : decode prog_1_method_42_code 64 = .ok (.aload_n 0, 1) := by decide +kernel
theorem dK_pass_65 : decode prog_1_method_42_code 65 = .ok (.getfield 33, 3) := by decide +kernel
theorem dK_pass_68 : decode prog_1_method_42_code 68 = .ok (.iload 6, 2) := by decide +kernel
theorem dK_pass_70 : decode prog_1_method_42_code 70 = .ok (.invokevirtual 84, 3) := by decide +kernel
theorem dK_pass_73 : decode prog_1_method_42_code 73 = .ok (.ifCond .ne 7, 3) := by decide +kernel
theorem dK_pass_76 : decode prog_1_method_42_code 76 = .ok (.iconst 1, 1) := by decide +kernel
theorem dK_pass_77 : decode prog_1_method_42_code 77 = .ok (.goto 4, 3) := by decide +kernel
theorem dK_pass_80 : decode prog_1_method_42_code 80 = .ok (.iconst 0, 1) := by decide +kernel
theorem dK_pass_81 : decode prog_1_method_42_code 81 = .ok (.istore 7, 2) := by decide +kernel
theorem dK_pass_83 : decode prog_1_method_42_code 83 = .ok (.iload 7, 2) := by decide +kernel
theorem dK_pass_85 : decode prog_1_method_42_code 85 = .ok (.ifCond .eq 16, 3) := by decide +kernel
theorem dK_pass_88 : decode prog_1_method_42_code 88 = .ok (.aload_n 0, 1) := by decide +kernel
theorem dK_pass_89 : decode prog_1_method_42_code 89 = .ok (.getfield 33, 3) := by decide +kernel
theorem dK_pass_92 : decode prog_1_method_42_code 92 = .ok (.iload 6, 2) := by decide +kernel
theorem dK_pass_94 : decode prog_1_method_42_code 94 = .ok (.iload 5, 2) := by decide +kernel
theorem dK_pass_96 : decode prog_1_method_42_code 96 = .ok (.bipush 7, 2) := by decide +kernel
theorem dK_pass_98 : decode prog_1_method_42_code 98 = .ok (.invokevirtual 232, 3) := by decide +kernel
theorem dK_pass_101 : decode prog_1_method_42_code 101 = .ok (.aload 4, 2) := by decide +kernel
theorem dK_pass_103 : decode prog_1_method_42_code 103 = .ok (.getfield 78, 3) := by decide +kernel
theorem dK_pass_106 : decode prog_1_method_42_code 106 = .ok (.aload 4, 2) := by decide +kernel
theorem dK_pass_108 : decode prog_1_method_42_code 108 = .ok (.getfield 215, 3) := by decide +kernel
theorem dK_pass_111 : decode prog_1_method_42_code 111 = .ok (.invokestatic 202, 3) := by decide +kernel
theorem dK_pass_114 : decode prog_1_method_42_code 114 = .ok (.aload_n 3, 1) := by decide +kernel
theorem dK_pass_115 : decode prog_1_method_42_code 115 = .ok (.getfield 218, 3) := by decide +kernel
theorem dK_pass_118 : decode prog_1_method_42_code 118 = .ok (.iastore, 1) := by decide +kernel
theorem dK_pass_119 : decode prog_1_method_42_code 119 = .ok (.aload 4, 2) := by decide +kernel
theorem dK_pass_121 : decode prog_1_method_42_code 121 = .ok (.getfield 78, 3) := by decide +kernel
theorem dK_pass_124 : decode prog_1_method_42_code 124 = .ok (.bipush 7, 2) := by decide +kernel
theorem dK_pass_126 : decode prog_1_method_42_code 126 = .ok (.iload 7, 2) := by decide +kernel
theorem dK_pass_128 : decode prog_1_method_42_code 128 = .ok (.ifCond .eq 7, 3) := by decide +kernel
theorem dK_pass_131 : decode prog_1_method_42_code 131 = .ok (.iconst 1, 1) := by decide +kernel
theorem dK_pass_132 : decode prog_1_method_42_code 132 = .ok (.goto 4, 3) := by decide +kernel
theorem dK_pass_135 : decode prog_1_method_42_code 135 = .ok (.iconst 0, 1) := by decide +kernel
theorem dK_pass_136 : decode prog_1_method_42_code 136 = .ok (.iastore, 1) := by decide +kernel
theorem dK_pass_137 : decode prog_1_method_42_code 137 = .ok (.aload_n 3, 1) := by decide +kernel
theorem dK_pass_138 : decode prog_1_method_42_code 138 = .ok (.getfield 215, 3) := by decide +kernel
theorem dK_pass_141 : decode prog_1_method_42_code 141 = .ok (.invokestatic 159, 3) := by decide +kernel
theorem dK_pass_144 : decode prog_1_method_42_code 144 = .ok (.bipush 16, 2) := by decide +kernel
theorem dK_pass_146 : decode prog_1_method_42_code 146 = .ok (.if_icmp .ne 9, 3) := by decide +kernel
theorem dK_pass_149 : decode prog_1_method_42_code 149 = .ok (.aload 4, 2) := by decide +kernel
theorem dK_pass_151 : decode prog_1_method_42_code 151 = .ok (.iload_n 1, 1) := by decide +kernel
theorem dK_pass_152 : decode prog_1_method_42_code 152 = .ok (.putfield 121, 3) := by decide +kernel
theorem dK_pass_155 : decode prog_1_method_42_code 155 = .ok (.return_, 1) := by decide +kernel
theorem dK_fieldC_0 : decode prog_1_method_26_code 0 = .ok (.iload_n 0, 1) := by decide +kernel
theorem dK_fieldC_1 : decode prog_1_method_26_code 1 = .ok (.bipush 11, 2) := by decide +kernel
theorem dK_fieldC_3 : decode prog_1_method_26_code 3 = .ok (.ishr, 1) := by decide +kernel
theorem dK_fieldC_4 : decode prog_1_method_26_code 4 = .ok (.bipush 7, 2) := by decide +kernel
theorem dK_fieldC_6 : decode prog_1_method_26_code 6 = .ok (.iand, 1) := by decide +kernel
theorem dK_fieldC_7 : decode prog_1_method_26_code 7 = .ok (.ireturn, 1) := by decide +kernel
theorem dG_derive_0 : decode prog_2_method_8_code 0 = .ok (.aload_n 0, 1) := by decide +kernel
theorem dG_derive_1 : decode prog_2_method_8_code 1 = .ok (.iload_n 1, 1) := by decide +kernel
theorem dG_derive_2 : decode prog_2_method_8_code 2 = .ok (.aload_n 0, 1) := by decide +kernel
theorem dG_derive_3 : decode prog_2_method_8_code 3 = .ok (.getfield 9, 3) := by decide +kernel
theorem dG_derive_6 : decode prog_2_method_8_code 6 = .ok (.iload_n 2, 1) := by decide +kernel
theorem dG_derive_7 : decode prog_2_method_8_code 7 = .ok (.iaload, 1) := by decide +kernel
theorem dG_derive_8 : decode prog_2_method_8_code 8 = .ok (.aload_n 0, 1) := by decide +kernel
theorem dG_derive_9 : decode prog_2_method_8_code 9 = .ok (.getfield 15, 3) := by decide +kernel
theorem dG_derive_12 : decode prog_2_method_8_code 12 = .ok (.iload_n 2, 1) := by decide +kernel
theorem dG_derive_13 : decode prog_2_method_8_code 13 = .ok (.iaload, 1) := by decide +kernel
theorem dG_derive_14 : decode prog_2_method_8_code 14 = .ok (.aload_n 0, 1) := by decide +kernel
theorem dG_derive_15 : decode prog_2_method_8_code 15 = .ok (.getfield 18, 3) := by decide +kernel
theorem dG_derive_18 : decode prog_2_method_8_code 18 = .ok (.iload_n 2, 1) := by decide +kernel
theorem dG_derive_19 : decode prog_2_method_8_code 19 = .ok (.iaload, 1) := by decide +kernel
theorem dG_derive_20 : decode prog_2_method_8_code 20 = .ok (.iload_n 3, 1) := by decide +kernel
theorem dG_derive_21 : decode prog_2_method_8_code 21 = .ok (.iand, 1) := by decide +kernel
theorem dG_derive_22 : decode prog_2_method_8_code 22 = .ok (.iload_n 2, 1) := by decide +kernel
theorem dG_derive_23 : decode prog_2_method_8_code 23 = .ok (.invokevirtual 28, 3) := by decide +kernel
theorem dG_derive_26 : decode prog_2_method_8_code 26 = .ok (.return_, 1) := by decide +kernel
theorem dK_receiveBy_0 : decode prog_1_method_40_code 0 = .ok (.iload_n 1, 1) := by decide +kernel
theorem dK_receiveBy_1 : decode prog_1_method_40_code 1 = .ok (.iload_n 2, 1) := by decide +kernel
theorem dK_receiveBy_2 : decode prog_1_method_40_code 2 = .ok (.invokestatic 172, 3) := by decide +kernel
theorem dK_receiveBy_5 : decode prog_1_method_40_code 5 = .ok (.invokestatic 102, 3) := by decide +kernel
theorem dK_receiveBy_8 : decode prog_1_method_40_code 8 = .ok (.istore_n 3, 1) := by decide +kernel
theorem dK_receiveBy_9 : decode prog_1_method_40_code 9 = .ok (.aload_n 0, 1) := by decide +kernel
theorem dK_receiveBy_10 : decode prog_1_method_40_code 10 = .ok (.getfield 33, 3) := by decide +kernel
theorem dK_receiveBy_13 : decode prog_1_method_40_code 13 = .ok (.iload_n 3, 1) := by decide +kernel
theorem dK_receiveBy_14 : decode prog_1_method_40_code 14 = .ok (.iconst 1, 1) := by decide +kernel
theorem dK_receiveBy_15 : decode prog_1_method_40_code 15 = .ok (.iconst 2, 1) := by decide +kernel
theorem dK_receiveBy_16 : decode prog_1_method_40_code 16 = .ok (.invokevirtual 208, 3) := by decide +kernel
theorem dK_receiveBy_19 : decode prog_1_method_40_code 19 = .ok (.ifCond .ne 5, 3) := by decide +kernel
theorem dK_receiveBy_22 : decode prog_1_method_40_code 22 = .ok (.iconst 4, 1) := by decide +kernel
theorem dK_receiveBy_23 : decode prog_1_method_40_code 23 = .ok (.ireturn, 1) := by decide +kernel
theorem dK_receiveBy_24 : decode prog_1_method_40_code 24 = .ok (.aload_n 0, 1) := by decide +kernel
theorem dK_receiveBy_25 : decode prog_1_method_40_code 25 = .ok (.getfield 15, 3) := by decide +kernel
theorem dK_receiveBy_28 : decode prog_1_method_40_code 28 = .ok (.iload_n 1, 1) := by decide +kernel
theorem dK_receiveBy_29 : decode prog_1_method_40_code 29 = .ok (.aaload, 1) := by decide +kernel
theorem dK_receiveBy_30 : decode prog_1_method_40_code 30 = .ok (.astore 4, 2) := by decide +kernel
theorem dK_receiveBy_32 : decode prog_1_method_40_code 32 = .ok (.aload 4, 2) := by decide +kernel
theorem dK_receiveBy_34 : decode prog_1_method_40_code 34 = .ok (.iload_n 2, 1) := by decide +kernel
theorem dK_receiveBy_35 : decode prog_1_method_40_code 35 = .ok (.putfield 215, 3) := by decide +kernel
theorem dK_receiveBy_38 : decode prog_1_method_40_code 38 = .ok (.aload_n 0, 1) := by decide +kernel
theorem dK_receiveBy_39 : decode prog_1_method_40_code 39 = .ok (.getfield 26, 3) := by decide +kernel
theorem dK_receiveBy_42 : decode prog_1_method_40_code 42 = .ok (.aload_n 0, 1) := by decide +kernel
theorem dK_receiveBy_43 : decode prog_1_method_40_code 43 = .ok (.getfield 33, 3) := by decide +kernel
theorem dK_receiveBy_46 : decode prog_1_method_40_code 46 = .ok (.iload_n 3, 1) := by decide +kernel
theorem dK_receiveBy_47 : decode prog_1_method_40_code 47 = .ok (.invokevirtual 221, 3) := by decide +kernel
theorem dK_receiveBy_50 : decode prog_1_method_40_code 50 = .ok (.aaload, 1) := by decide +kernel
theorem dK_receiveBy_51 : decode prog_1_method_40_code 51 = .ok (.astore 5, 2) := by decide +kernel
theorem dK_receiveBy_53 : decode prog_1_method_40_code 53 = .ok (.aload_n 0, 1) := by decide +kernel
theorem dK_receiveBy_54 : decode prog_1_method_40_code 54 = .ok (.aload 5, 2) := by decide +kernel
theorem dK_receiveBy_56 : decode prog_1_method_40_code 56 = .ok (.iconst 2, 1) := by decide +kernel
theorem dK_receiveBy_57 : decode prog_1_method_40_code 57 = .ok (.invokevirtual 224, 3) := by decide +kernel
theorem dK_receiveBy_60 : decode prog_1_method_40_code 60 = .ok (.istore 6, 2) := by decide +kernel
theorem dK_receiveBy_62 : decode prog_1_method_40_code 62 = .ok (.iload 6, 2) := by decide +kernel
theorem dK_receiveBy_64 : decode prog_1_method_40_code 64 = .ok (.iconst (-1), 1) := by decide +kernel
theorem dK_receiveBy_65 : decode prog_1_method_40_code 65 = .ok (.if_icmp .ne 17, 3) := by decide +kernel
theorem dK_receiveBy_68 : decode prog_1_method_40_code 68 = .ok (.aload 4, 2) := by decide +kernel
theorem dK_receiveBy_70 : decode prog_1_method_40_code 70 = .ok (.iconst 4, 1) := by decide +kernel
theorem dK_receiveBy_71 : decode prog_1_method_40_code 71 = .ok (.putfield 96, 3) := by decide +kernel
theorem dK_receiveBy_74 : decode prog_1_method_40_code 74 = .ok (.aload 5, 2) := by decide +kernel
theorem dK_receiveBy_76 : decode prog_1_method_40_code 76 = .ok (.iload_n 1, 1) := by decide +kernel
theorem dK_receiveBy_77 : decode prog_1_method_40_code 77 = .ok (.invokevirtual 139, 3) := by decide +kernel
theorem dK_receiveBy_80 : decode prog_1_method_40_code 80 = .ok (.iconst 0, 1) := by decide +kernel
theorem dK_receiveBy_81 : decode prog_1_method_40_code 81 = .ok (.ireturn, 1) := by decide +kernel
theorem dK_receiveBy_82 : decode prog_1_method_40_code 82 = .ok (.aload_n 0, 1) := by decide +kernel
theorem dK_receiveBy_83 : decode prog_1_method_40_code 83 = .ok (.iload 6, 2) := by decide +kernel
theorem dK_receiveBy_85 : decode prog_1_method_40_code 85 = .ok (.iload_n 1, 1) := by decide +kernel
theorem dK_receiveBy_86 : decode prog_1_method_40_code 86 = .ok (.invokevirtual 228, 3) := by decide +kernel
theorem dK_receiveBy_89 : decode prog_1_method_40_code 89 = .ok (.aload_n 0, 1) := by decide +kernel
theorem dK_receiveBy_90 : decode prog_1_method_40_code 90 = .ok (.getfield 15, 3) := by decide +kernel
theorem dK_receiveBy_93 : decode prog_1_method_40_code 93 = .ok (.iload 6, 2) := by decide +kernel
theorem dK_receiveBy_95 : decode prog_1_method_40_code 95 = .ok (.aaload, 1) := by decide +kernel
theorem dK_receiveBy_96 : decode prog_1_method_40_code 96 = .ok (.getfield 215, 3) := by decide +kernel
theorem dK_receiveBy_99 : decode prog_1_method_40_code 99 = .ok (.invokestatic 159, 3) := by decide +kernel
theorem dK_receiveBy_102 : decode prog_1_method_40_code 102 = .ok (.bipush 16, 2) := by decide +kernel
theorem dK_receiveBy_104 : decode prog_1_method_40_code 104 = .ok (.if_icmp .ne 17, 3) := by decide +kernel
theorem dK_receiveBy_107 : decode prog_1_method_40_code 107 = .ok (.aload_n 0, 1) := by decide +kernel
theorem dK_receiveBy_108 : decode prog_1_method_40_code 108 = .ok (.getfield 15, 3) := by decide +kernel
theorem dK_receiveBy_111 : decode prog_1_method_40_code 111 = .ok (.iload 6, 2) := by decide +kernel
theorem dK_receiveBy_113 : decode prog_1_method_40_code 113 = .ok (.aaload, 1) := by decide +kernel
theorem dK_receiveBy_114 : decode prog_1_method_40_code 114 = .ok (.iconst 3, 1) := by decide +kernel
theorem dK_receiveBy_115 : decode prog_1_method_40_code 115 = .ok (.putfield 96, 3) := by decide +kernel
theorem dK_receiveBy_118 : decode prog_1_method_40_code 118 = .ok (.goto 9, 3) := by decide +kernel
theorem dK_receiveBy_121 : decode prog_1_method_40_code 121 = .ok (.aload_n 0, 1) := by decide +kernel
theorem dK_receiveBy_122 : decode prog_1_method_40_code 122 = .ok (.iload 6, 2) := by decide +kernel
theorem dK_receiveBy_124 : decode prog_1_method_40_code 124 = .ok (.invokevirtual 70, 3) := by decide +kernel
theorem dK_receiveBy_127 : decode prog_1_method_40_code 127 = .ok (.iconst 0, 1) := by decide +kernel
theorem dK_receiveBy_128 : decode prog_1_method_40_code 128 = .ok (.ireturn, 1) := by decide +kernel
theorem dK_answerCaller_0 : decode prog_1_method_43_code 0 = .ok (.aload_n 1, 1) := by decide +kernel
theorem dK_answerCaller_1 : decode prog_1_method_43_code 1 = .ok (.getfield 121, 3) := by decide +kernel
theorem dK_answerCaller_4 : decode prog_1_method_43_code 4 = .ok (.istore_n 3, 1) := by decide +kernel
theorem dK_answerCaller_5 : decode prog_1_method_43_code 5 = .ok (.iload_n 3, 1) := by decide +kernel
theorem dK_answerCaller_6 : decode prog_1_method_43_code 6 = .ok (.iconst (-1), 1) := by decide +kernel
theorem dK_answerCaller_7 : decode prog_1_method_43_code 7 = .ok (.if_icmp .eq 44, 3) := by decide +kernel
theorem dK_answerCaller_10 : decode prog_1_method_43_code 10 = .ok (.aload_n 0, 1) := by decide +kernel
theorem dK_answerCaller_11 : decode prog_1_method_43_code 11 = .ok (.getfield 15, 3) := by decide +kernel
theorem dK_answerCaller_14 : decode prog_1_method_43_code 14 = .ok (.iload_n 3, 1) := by decide +kernel
theorem dK_answerCaller_15 : decode prog_1_method_43_code 15 = .ok (.aaload, 1) := by decide +kernel
theorem dK_answerCaller_16 : decode prog_1_method_43_code 16 = .ok (.astore 4, 2) := by decide +kernel
theorem dK_answerCaller_18 : decode prog_1_method_43_code 18 = .ok (.aload 4, 2) := by decide +kernel
theorem dK_answerCaller_20 : decode prog_1_method_43_code 20 = .ok (.getfield 78, 3) := by decide +kernel
theorem dK_answerCaller_23 : decode prog_1_method_43_code 23 = .ok (.aload 4, 2) := by decide +kernel
theorem dK_answerCaller_25 : decode prog_1_method_43_code 25 = .ok (.getfield 215, 3) := by decide +kernel
theorem dK_answerCaller_28 : decode prog_1_method_43_code 28 = .ok (.invokestatic 202, 3) := by decide +kernel
theorem dK_answerCaller_31 : decode prog_1_method_43_code 31 = .ok (.aload_n 1, 1) := by decide +kernel
theorem dK_answerCaller_32 : decode prog_1_method_43_code 32 = .ok (.getfield 78, 3) := by decide +kernel
theorem dK_answerCaller_35 : decode prog_1_method_43_code 35 = .ok (.iload_n 2, 1) := by decide +kernel
theorem dK_answerCaller_36 : decode prog_1_method_43_code 36 = .ok (.invokestatic 202, 3) := by decide +kernel
theorem dK_answerCaller_39 : decode prog_1_method_43_code 39 = .ok (.iaload, 1) := by decide +kernel
theorem dK_answerCaller_40 : decode prog_1_method_43_code 40 = .ok (.iastore, 1) := by decide +kernel
theorem dK_answerCaller_41 : decode prog_1_method_43_code 41 = .ok (.aload_n 0, 1) := by decide +kernel
theorem dK_answerCaller_42 : decode prog_1_method_43_code 42 = .ok (.iload_n 3, 1) := by decide +kernel
theorem dK_answerCaller_43 : decode prog_1_method_43_code 43 = .ok (.invokevirtual 70, 3) := by decide +kernel
theorem dK_answerCaller_46 : decode prog_1_method_43_code 46 = .ok (.aload_n 1, 1) := by decide +kernel
theorem dK_answerCaller_47 : decode prog_1_method_43_code 47 = .ok (.iconst (-1), 1) := by decide +kernel
theorem dK_answerCaller_48 : decode prog_1_method_43_code 48 = .ok (.putfield 121, 3) := by decide +kernel
theorem dK_answerCaller_51 : decode prog_1_method_43_code 51 = .ok (.iconst 0, 1) := by decide +kernel
theorem dK_answerCaller_52 : decode prog_1_method_43_code 52 = .ok (.ireturn, 1) := by decide +kernel
theorem dK_mintInto_0 : decode prog_1_method_44_code 0 = .ok (.iload_n 1, 1) := by decide +kernel
theorem dK_mintInto_1 : decode prog_1_method_44_code 1 = .ok (.iload_n 2, 1) := by decide +kernel
theorem dK_mintInto_2 : decode prog_1_method_44_code 2 = .ok (.invokestatic 172, 3) := by decide +kernel
theorem dK_mintInto_5 : decode prog_1_method_44_code 5 = .ok (.invokestatic 102, 3) := by decide +kernel
theorem dK_mintInto_8 : decode prog_1_method_44_code 8 = .ok (.istore_n 3, 1) := by decide +kernel
theorem dK_mintInto_9 : decode prog_1_method_44_code 9 = .ok (.iload_n 1, 1) := by decide +kernel
theorem dK_mintInto_10 : decode prog_1_method_44_code 10 = .ok (.iload_n 2, 1) := by decide +kernel
theorem dK_mintInto_11 : decode prog_1_method_44_code 11 = .ok (.invokestatic 202, 3) := by decide +kernel
theorem dK_mintInto_14 : decode prog_1_method_44_code 14 = .ok (.invokestatic 102, 3) := by decide +kernel
theorem dK_mintInto_17 : decode prog_1_method_44_code 17 = .ok (.istore 4, 2) := by decide +kernel
theorem dK_mintInto_19 : decode prog_1_method_44_code 19 = .ok (.aload_n 0, 1) := by decide +kernel
theorem dK_mintInto_20 : decode prog_1_method_44_code 20 = .ok (.getfield 33, 3) := by decide +kernel
theorem dK_mintInto_23 : decode prog_1_method_44_code 23 = .ok (.iload_n 3, 1) := by decide +kernel
theorem dK_mintInto_24 : decode prog_1_method_44_code 24 = .ok (.invokevirtual 84, 3) := by decide +kernel
theorem dK_mintInto_27 : decode prog_1_method_44_code 27 = .ok (.ifCond .ne 5, 3) := by decide +kernel
theorem dK_mintInto_30 : decode prog_1_method_44_code 30 = .ok (.iconst 4, 1) := by decide +kernel
theorem dK_mintInto_31 : decode prog_1_method_44_code 31 = .ok (.ireturn, 1) := by decide +kernel
theorem dK_mintInto_32 : decode prog_1_method_44_code 32 = .ok (.aload_n 0, 1) := by decide +kernel
theorem dK_mintInto_33 : decode prog_1_method_44_code 33 = .ok (.getfield 33, 3) := by decide +kernel
theorem dK_mintInto_36 : decode prog_1_method_44_code 36 = .ok (.iload 4, 2) := by decide +kernel
theorem dK_mintInto_38 : decode prog_1_method_44_code 38 = .ok (.invokevirtual 84, 3) := by decide +kernel
theorem dK_mintInto_41 : decode prog_1_method_44_code 41 = .ok (.ifCond .eq 5, 3) := by decide +kernel
theorem dK_mintInto_44 : decode prog_1_method_44_code 44 = .ok (.iconst 5, 1) := by decide +kernel
theorem dK_mintInto_45 : decode prog_1_method_44_code 45 = .ok (.ireturn, 1) := by decide +kernel
theorem dK_mintInto_46 : decode prog_1_method_44_code 46 = .ok (.aload_n 0, 1) := by decide +kernel
theorem dK_mintInto_47 : decode prog_1_method_44_code 47 = .ok (.getfield 33, 3) := by decide +kernel
theorem dK_mintInto_50 : decode prog_1_method_44_code 50 = .ok (.iload 4, 2) := by decide +kernel
theorem dK_mintInto_52 : decode prog_1_method_44_code 52 = .ok (.iload_n 3, 1) := by decide +kernel
theorem dK_mintInto_53 : decode prog_1_method_44_code 53 = .ok (.iload_n 2, 1) := by decide +kernel
theorem dK_mintInto_54 : decode prog_1_method_44_code 54 = .ok (.invokestatic 136, 3) := by decide +kernel
theorem dK_mintInto_57 : decode prog_1_method_44_code 57 = .ok (.invokevirtual 232, 3) := by decide +kernel
theorem dK_mintInto_60 : decode prog_1_method_44_code 60 = .ok (.iconst 0, 1) := by decide +kernel
theorem dK_mintInto_61 : decode prog_1_method_44_code 61 = .ok (.ireturn, 1) := by decide +kernel
theorem dK_takeBack_0 : decode prog_1_method_45_code 0 = .ok (.iload_n 1, 1) := by decide +kernel
theorem dK_takeBack_1 : decode prog_1_method_45_code 1 = .ok (.iload_n 2, 1) := by decide +kernel
theorem dK_takeBack_2 : decode prog_1_method_45_code 2 = .ok (.invokestatic 172, 3) := by decide +kernel
theorem dK_takeBack_5 : decode prog_1_method_45_code 5 = .ok (.invokestatic 102, 3) := by decide +kernel
theorem dK_takeBack_8 : decode prog_1_method_45_code 8 = .ok (.istore_n 3, 1) := by decide +kernel
theorem dK_takeBack_9 : decode prog_1_method_45_code 9 = .ok (.aload_n 0, 1) := by decide +kernel
theorem dK_takeBack_10 : decode prog_1_method_45_code 10 = .ok (.getfield 33, 3) := by decide +kernel
theorem dK_takeBack_13 : decode prog_1_method_45_code 13 = .ok (.iload_n 3, 1) := by decide +kernel
theorem dK_takeBack_14 : decode prog_1_method_45_code 14 = .ok (.invokevirtual 84, 3) := by decide +kernel
theorem dK_takeBack_17 : decode prog_1_method_45_code 17 = .ok (.ifCond .ne 5, 3) := by decide +kernel
theorem dK_takeBack_20 : decode prog_1_method_45_code 20 = .ok (.iconst 4, 1) := by decide +kernel
theorem dK_takeBack_21 : decode prog_1_method_45_code 21 = .ok (.ireturn, 1) := by decide +kernel
theorem dK_takeBack_22 : decode prog_1_method_45_code 22 = .ok (.iload_n 2, 1) := by decide +kernel
theorem dK_takeBack_23 : decode prog_1_method_45_code 23 = .ok (.invokestatic 159, 3) := by decide +kernel
theorem dK_takeBack_26 : decode prog_1_method_45_code 26 = .ok (.bipush 20, 2) := by decide +kernel
theorem dK_takeBack_28 : decode prog_1_method_45_code 28 = .ok (.if_icmp .ne 14, 3) := by decide +kernel
theorem dK_takeBack_31 : decode prog_1_method_45_code 31 = .ok (.aload_n 0, 1) := by decide +kernel
theorem dK_takeBack_32 : decode prog_1_method_45_code 32 = .ok (.getfield 33, 3) := by decide +kernel
theorem dK_takeBack_35 : decode prog_1_method_45_code 35 = .ok (.iload_n 3, 1) := by decide +kernel
theorem dK_takeBack_36 : decode prog_1_method_45_code 36 = .ok (.invokevirtual 105, 3) := by decide +kernel
theorem dK_takeBack_39 : decode prog_1_method_45_code 39 = .ok (.goto 11, 3) := by decide +kernel
theorem dK_takeBack_42 : decode prog_1_method_45_code 42 = .ok (.aload_n 0, 1) := by decide +kernel
theorem dK_takeBack_43 : decode prog_1_method_45_code 43 = .ok (.getfield 33, 3) := by decide +kernel
theorem dK_takeBack_46 : decode prog_1_method_45_code 46 = .ok (.iload_n 3, 1) := by decide +kernel
theorem dK_takeBack_47 : decode prog_1_method_45_code 47 = .ok (.invokevirtual 235, 3) := by decide +kernel
theorem dK_takeBack_50 : decode prog_1_method_45_code 50 = .ok (.iconst 0, 1) := by decide +kernel
theorem dK_takeBack_51 : decode prog_1_method_45_code 51 = .ok (.ireturn, 1) := by decide +kernel
theorem dG_revokeBelow_0 : decode prog_2_method_11_code 0 = .ok (.iconst 0, 1) := by decide +kernel
theorem dG_revokeBelow_1 : decode prog_2_method_11_code 1 = .ok (.istore_n 2, 1) := by decide +kernel
theorem dG_revokeBelow_2 : decode prog_2_method_11_code 2 = .ok (.iload_n 2, 1) := by decide +kernel
theorem dG_revokeBelow_3 : decode prog_2_method_11_code 3 = .ok (.bipush 48, 2) := by decide +kernel
theorem dG_revokeBelow_5 : decode prog_2_method_11_code 5 = .ok (.if_icmp .ge 21, 3) := by decide +kernel
theorem dG_revokeBelow_8 : decode prog_2_method_11_code 8 = .ok (.aload_n 0, 1) := by decide +kernel
theorem dG_revokeBelow_9 : decode prog_2_method_11_code 9 = .ok (.getfield 24, 3) := by decide +kernel
theorem dG_revokeBelow_12 : decode prog_2_method_11_code 12 = .ok (.iload_n 2, 1) := by decide +kernel
theorem dG_revokeBelow_13 : decode prog_2_method_11_code 13 = .ok (.aload_n 0, 1) := by decide +kernel
theorem dG_revokeBelow_14 : decode prog_2_method_11_code 14 = .ok (.iload_n 2, 1) := by decide +kernel
theorem dG_revokeBelow_15 : decode prog_2_method_11_code 15 = .ok (.iload_n 1, 1) := by decide +kernel
theorem dG_revokeBelow_16 : decode prog_2_method_11_code 16 = .ok (.invokevirtual 40, 3) := by decide +kernel
theorem dG_revokeBelow_19 : decode prog_2_method_11_code 19 = .ok (.bastore, 1) := by decide +kernel
theorem dG_revokeBelow_20 : decode prog_2_method_11_code 20 = .ok (.iinc 2 1, 3) := by decide +kernel
theorem dG_revokeBelow_23 : decode prog_2_method_11_code 23 = .ok (.goto (-21), 3) := by decide +kernel
theorem dG_revokeBelow_26 : decode prog_2_method_11_code 26 = .ok (.iconst 0, 1) := by decide +kernel
theorem dG_revokeBelow_27 : decode prog_2_method_11_code 27 = .ok (.istore_n 2, 1) := by decide +kernel
theorem dG_revokeBelow_28 : decode prog_2_method_11_code 28 = .ok (.iload_n 2, 1) := by decide +kernel
theorem dG_revokeBelow_29 : decode prog_2_method_11_code 29 = .ok (.bipush 48, 2) := by decide +kernel
theorem dG_revokeBelow_31 : decode prog_2_method_11_code 31 = .ok (.if_icmp .ge 23, 3) := by decide +kernel
theorem dG_revokeBelow_34 : decode prog_2_method_11_code 34 = .ok (.aload_n 0, 1) := by decide +kernel
theorem dG_revokeBelow_35 : decode prog_2_method_11_code 35 = .ok (.getfield 24, 3) := by decide +kernel
theorem dG_revokeBelow_38 : decode prog_2_method_11_code 38 = .ok (.iload_n 2, 1) := by decide +kernel
theorem dG_revokeBelow_39 : decode prog_2_method_11_code 39 = .ok (.baload, 1) := by decide +kernel
theorem dG_revokeBelow_40 : decode prog_2_method_11_code 40 = .ok (.ifCond .eq 8, 3) := by decide +kernel
theorem dG_revokeBelow_43 : decode prog_2_method_11_code 43 = .ok (.aload_n 0, 1) := by decide +kernel
theorem dG_revokeBelow_44 : decode prog_2_method_11_code 44 = .ok (.iload_n 2, 1) := by decide +kernel
theorem dG_revokeBelow_45 : decode prog_2_method_11_code 45 = .ok (.invokevirtual 36, 3) := by decide +kernel
theorem dG_revokeBelow_48 : decode prog_2_method_11_code 48 = .ok (.iinc 2 1, 3) := by decide +kernel
theorem dG_revokeBelow_51 : decode prog_2_method_11_code 51 = .ok (.goto (-23), 3) := by decide +kernel
theorem dG_revokeBelow_54 : decode prog_2_method_11_code 54 = .ok (.return_, 1) := by decide +kernel
theorem dG_isBelow_0 : decode prog_2_method_12_code 0 = .ok (.aload_n 0, 1) := by decide +kernel
theorem dG_isBelow_1 : decode prog_2_method_12_code 1 = .ok (.iload_n 1, 1) := by decide +kernel
theorem dG_isBelow_2 : decode prog_2_method_12_code 2 = .ok (.invokevirtual 32, 3) := by decide +kernel
theorem dG_isBelow_5 : decode prog_2_method_12_code 5 = .ok (.ifCond .eq 12, 3) := by decide +kernel
theorem dG_isBelow_8 : decode prog_2_method_12_code 8 = .ok (.aload_n 0, 1) := by decide +kernel
theorem dG_isBelow_9 : decode prog_2_method_12_code 9 = .ok (.getfield 21, 3) := by decide +kernel
theorem dG_isBelow_12 : decode prog_2_method_12_code 12 = .ok (.iload_n 1, 1) := by decide +kernel
theorem dG_isBelow_13 : decode prog_2_method_12_code 13 = .ok (.iaload, 1) := by decide +kernel
theorem dG_isBelow_14 : decode prog_2_method_12_code 14 = .ok (.goto 4, 3) := by decide +kernel
theorem dG_isBelow_17 : decode prog_2_method_12_code 17 = .ok (.iconst (-1), 1) := by decide +kernel
theorem dG_isBelow_18 : decode prog_2_method_12_code 18 = .ok (.istore_n 3, 1) := by decide +kernel
theorem dG_isBelow_19 : decode prog_2_method_12_code 19 = .ok (.iconst 0, 1) := by decide +kernel
theorem dG_isBelow_20 : decode prog_2_method_12_code 20 = .ok (.istore 4, 2) := by decide +kernel
theorem dG_isBelow_22 : decode prog_2_method_12_code 22 = .ok (.iload 4, 2) := by decide +kernel
theorem dG_isBelow_24 : decode prog_2_method_12_code 24 = .ok (.bipush 48, 2) := by decide +kernel
theorem dG_isBelow_26 : decode prog_2_method_12_code 26 = .ok (.if_icmp .ge 28, 3) := by decide +kernel
theorem dG_isBelow_29 : decode prog_2_method_12_code 29 = .ok (.iload_n 3, 1) := by decide +kernel
theorem dG_isBelow_30 : decode prog_2_method_12_code 30 = .ok (.iconst (-1), 1) := by decide +kernel
theorem dG_isBelow_31 : decode prog_2_method_12_code 31 = .ok (.if_icmp .eq 23, 3) := by decide +kernel
theorem dG_isBelow_34 : decode prog_2_method_12_code 34 = .ok (.iload_n 3, 1) := by decide +kernel
theorem dG_isBelow_35 : decode prog_2_method_12_code 35 = .ok (.iload_n 2, 1) := by decide +kernel
theorem dG_isBelow_36 : decode prog_2_method_12_code 36 = .ok (.if_icmp .ne 5, 3) := by decide +kernel
theorem dG_isBelow_39 : decode prog_2_method_12_code 39 = .ok (.iconst 1, 1) := by decide +kernel
theorem dG_isBelow_40 : decode prog_2_method_12_code 40 = .ok (.ireturn, 1) := by decide +kernel
theorem dG_isBelow_41 : decode prog_2_method_12_code 41 = .ok (.aload_n 0, 1) := by decide +kernel
theorem dG_isBelow_42 : decode prog_2_method_12_code 42 = .ok (.getfield 21, 3) := by decide +kernel
theorem dG_isBelow_45 : decode prog_2_method_12_code 45 = .ok (.iload_n 3, 1) := by decide +kernel
theorem dG_isBelow_46 : decode prog_2_method_12_code 46 = .ok (.iaload, 1) := by decide +kernel
theorem dG_isBelow_47 : decode prog_2_method_12_code 47 = .ok (.istore_n 3, 1) := by decide +kernel
theorem dG_isBelow_48 : decode prog_2_method_12_code 48 = .ok (.iinc 4 1, 3) := by decide +kernel
theorem dG_isBelow_51 : decode prog_2_method_12_code 51 = .ok (.goto (-29), 3) := by decide +kernel
theorem dG_isBelow_54 : decode prog_2_method_12_code 54 = .ok (.iconst 0, 1) := by decide +kernel
theorem dG_isBelow_55 : decode prog_2_method_12_code 55 = .ok (.ireturn, 1) := by decide +kernel
theorem dK_lookIntoSlot_0 : decode prog_1_method_46_code 0 = .ok (.aload_n 0, 1) := by decide +kernel
theorem dK_lookIntoSlot_1 : decode prog_1_method_46_code 1 = .ok (.getfield 15, 3) := by decide +kernel
theorem dK_lookIntoSlot_4 : decode prog_1_method_46_code 4 = .ok (.iload_n 1, 1) := by decide +kernel
theorem dK_lookIntoSlot_5 : decode prog_1_method_46_code 5 = .ok (.aaload, 1) := by decide +kernel
theorem dK_lookIntoSlot_6 : decode prog_1_method_46_code 6 = .ok (.getfield 78, 3) := by decide +kernel
theorem dK_lookIntoSlot_9 : decode prog_1_method_46_code 9 = .ok (.iload_n 2, 1) := by decide +kernel
theorem dK_lookIntoSlot_10 : decode prog_1_method_46_code 10 = .ok (.invokestatic 172, 3) := by decide +kernel
theorem dK_lookIntoSlot_13 : decode prog_1_method_46_code 13 = .ok (.aload_n 0, 1) := by decide +kernel
theorem dK_lookIntoSlot_14 : decode prog_1_method_46_code 14 = .ok (.getfield 33, 3) := by decide +kernel
theorem dK_lookIntoSlot_17 : decode prog_1_method_46_code 17 = .ok (.iload_n 1, 1) := by decide +kernel
theorem dK_lookIntoSlot_18 : decode prog_1_method_46_code 18 = .ok (.iload_n 2, 1) := by decide +kernel
theorem dK_lookIntoSlot_19 : decode prog_1_method_46_code 19 = .ok (.invokestatic 202, 3) := by decide +kernel
theorem dK_lookIntoSlot_22 : decode prog_1_method_46_code 22 = .ok (.invokestatic 102, 3) := by decide +kernel
theorem dK_lookIntoSlot_25 : decode prog_1_method_46_code 25 = .ok (.invokevirtual 84, 3) := by decide +kernel
theorem dK_lookIntoSlot_28 : decode prog_1_method_46_code 28 = .ok (.ifCond .eq 7, 3) := by decide +kernel
theorem dK_lookIntoSlot_31 : decode prog_1_method_46_code 31 = .ok (.iconst 1, 1) := by decide +kernel
theorem dK_lookIntoSlot_32 : decode prog_1_method_46_code 32 = .ok (.goto 4, 3) := by decide +kernel
theorem dK_lookIntoSlot_35 : decode prog_1_method_46_code 35 = .ok (.iconst 0, 1) := by decide +kernel
theorem dK_lookIntoSlot_36 : decode prog_1_method_46_code 36 = .ok (.iastore, 1) := by decide +kernel
theorem dK_lookIntoSlot_37 : decode prog_1_method_46_code 37 = .ok (.iconst 0, 1) := by decide +kernel
theorem dK_lookIntoSlot_38 : decode prog_1_method_46_code 38 = .ok (.ireturn, 1) := by decide +kernel
theorem dK_compute_0 : decode prog_1_method_36_code 0 = .ok (.aload_n 0, 1) := by decide +kernel
theorem dK_compute_1 : decode prog_1_method_36_code 1 = .ok (.getfield 78, 3) := by decide +kernel
theorem dK_compute_4 : decode prog_1_method_36_code 4 = .ok (.astore_n 2, 1) := by decide +kernel
theorem dK_compute_5 : decode prog_1_method_36_code 5 = .ok (.iload_n 1, 1) := by decide +kernel
theorem dK_compute_6 : decode prog_1_method_36_code 6 = .ok (.invokestatic 172, 3) := by decide +kernel
theorem dK_compute_9 : decode prog_1_method_36_code 9 = .ok (.istore_n 3, 1) := by decide +kernel
theorem dK_compute_10 : decode prog_1_method_36_code 10 = .ok (.aload_n 2, 1) := by decide +kernel
theorem dK_compute_11 : decode prog_1_method_36_code 11 = .ok (.iload_n 1, 1) := by decide +kernel
theorem dK_compute_12 : decode prog_1_method_36_code 12 = .ok (.invokestatic 202, 3) := by decide +kernel
theorem dK_compute_15 : decode prog_1_method_36_code 15 = .ok (.iaload, 1) := by decide +kernel
theorem dK_compute_16 : decode prog_1_method_36_code 16 = .ok (.istore 4, 2) := by decide +kernel
theorem dK_compute_18 : decode prog_1_method_36_code 18 = .ok (.aload_n 2, 1) := by decide +kernel
theorem dK_compute_19 : decode prog_1_method_36_code 19 = .ok (.iload_n 1, 1) := by decide +kernel
theorem dK_compute_20 : decode prog_1_method_36_code 20 = .ok (.invokestatic 205, 3) := by decide +kernel
theorem dK_compute_23 : decode prog_1_method_36_code 23 = .ok (.iaload, 1) := by decide +kernel
theorem dK_compute_24 : decode prog_1_method_36_code 24 = .ok (.istore 5, 2) := by decide +kernel
theorem dK_compute_26 : decode prog_1_method_36_code 26 = .ok (.iload_n 1, 1) := by decide +kernel
theorem dK_compute_27 : decode prog_1_method_36_code 27 = .ok (.invokestatic 159, 3) := by decide +kernel
theorem dK_compute_30 : decode prog_1_method_36_code 30 = .ok (.tableswitch 146 0 13 #[70, 78, 87, 94, 104, 114, 124, 134, 146, 146, 144, 144, 144, 144], 70) := by decide +kernel
theorem dK_compute_100 : decode prog_1_method_36_code 100 = .ok (.aload_n 0, 1) := by decide +kernel
theorem dK_compute_101 : decode prog_1_method_36_code 101 = .ok (.bipush 6, 2) := by decide +kernel
theorem dK_compute_103 : decode prog_1_method_36_code 103 = .ok (.putfield 96, 3) := by decide +kernel
theorem dK_compute_106 : decode prog_1_method_36_code 106 = .ok (.iconst 0, 1) := by decide +kernel
theorem dK_compute_107 : decode prog_1_method_36_code 107 = .ok (.ireturn, 1) := by decide +kernel
theorem dK_compute_108 : decode prog_1_method_36_code 108 = .ok (.aload_n 2, 1) := by decide +kernel
theorem dK_compute_109 : decode prog_1_method_36_code 109 = .ok (.iload_n 3, 1) := by decide +kernel
theorem dK_compute_110 : decode prog_1_method_36_code 110 = .ok (.iload_n 1, 1) := by decide +kernel
theorem dK_compute_111 : decode prog_1_method_36_code 111 = .ok (.invokestatic 136, 3) := by decide +kernel
theorem dK_compute_114 : decode prog_1_method_36_code 114 = .ok (.iastore, 1) := by decide +kernel
theorem dK_compute_115 : decode prog_1_method_36_code 115 = .ok (.iconst 0, 1) := by decide +kernel
theorem dK_compute_116 : decode prog_1_method_36_code 116 = .ok (.ireturn, 1) := by decide +kernel
theorem dK_compute_117 : decode prog_1_method_36_code 117 = .ok (.aload_n 2, 1) := by decide +kernel
theorem dK_compute_118 : decode prog_1_method_36_code 118 = .ok (.iload_n 3, 1) := by decide +kernel
theorem dK_compute_119 : decode prog_1_method_36_code 119 = .ok (.iload 4, 2) := by decide +kernel
theorem dK_compute_121 : decode prog_1_method_36_code 121 = .ok (.iastore, 1) := by decide +kernel
theorem dK_compute_122 : decode prog_1_method_36_code 122 = .ok (.iconst 0, 1) := by decide +kernel
theorem dK_compute_123 : decode prog_1_method_36_code 123 = .ok (.ireturn, 1) := by decide +kernel
theorem dK_compute_124 : decode prog_1_method_36_code 124 = .ok (.aload_n 2, 1) := by decide +kernel
theorem dK_compute_125 : decode prog_1_method_36_code 125 = .ok (.iload_n 3, 1) := by decide +kernel
theorem dK_compute_126 : decode prog_1_method_36_code 126 = .ok (.iload 4, 2) := by decide +kernel
theorem dK_compute_128 : decode prog_1_method_36_code 128 = .ok (.iload 5, 2) := by decide +kernel
theorem dK_compute_130 : decode prog_1_method_36_code 130 = .ok (.iadd, 1) := by decide +kernel
theorem dK_compute_131 : decode prog_1_method_36_code 131 = .ok (.iastore, 1) := by decide +kernel
theorem dK_compute_132 : decode prog_1_method_36_code 132 = .ok (.iconst 0, 1) := by decide +kernel
theorem dK_compute_133 : decode prog_1_method_36_code 133 = .ok (.ireturn, 1) := by decide +kernel
theorem dK_compute_134 : decode prog_1_method_36_code 134 = .ok (.aload_n 2, 1) := by decide +kernel
theorem dK_compute_135 : decode prog_1_method_36_code 135 = .ok (.iload_n 3, 1) := by decide +kernel
theorem dK_compute_136 : decode prog_1_method_36_code 136 = .ok (.iload 4, 2) := by decide +kernel
theorem dK_compute_138 : decode prog_1_method_36_code 138 = .ok (.iload 5, 2) := by decide +kernel
theorem dK_compute_140 : decode prog_1_method_36_code 140 = .ok (.isub, 1) := by decide +kernel
theorem dK_compute_141 : decode prog_1_method_36_code 141 = .ok (.iastore, 1) := by decide +kernel
theorem dK_compute_142 : decode prog_1_method_36_code 142 = .ok (.iconst 0, 1) := by decide +kernel
theorem dK_compute_143 : decode prog_1_method_36_code 143 = .ok (.ireturn, 1) := by decide +kernel
theorem dK_compute_144 : decode prog_1_method_36_code 144 = .ok (.aload_n 2, 1) := by decide +kernel
theorem dK_compute_145 : decode prog_1_method_36_code 145 = .ok (.iload_n 3, 1) := by decide +kernel
theorem dK_compute_146 : decode prog_1_method_36_code 146 = .ok (.iload 4, 2) := by decide +kernel
theorem dK_compute_148 : decode prog_1_method_36_code 148 = .ok (.iload 5, 2) := by decide +kernel
theorem dK_compute_150 : decode prog_1_method_36_code 150 = .ok (.imul, 1) := by decide +kernel
theorem dK_compute_151 : decode prog_1_method_36_code 151 = .ok (.iastore, 1) := by decide +kernel
theorem dK_compute_152 : decode prog_1_method_36_code 152 = .ok (.iconst 0, 1) := by decide +kernel
theorem dK_compute_153 : decode prog_1_method_36_code 153 = .ok (.ireturn, 1) := by decide +kernel
theorem dK_compute_154 : decode prog_1_method_36_code 154 = .ok (.aload_n 2, 1) := by decide +kernel
theorem dK_compute_155 : decode prog_1_method_36_code 155 = .ok (.iload_n 3, 1) := by decide +kernel
theorem dK_compute_156 : decode prog_1_method_36_code 156 = .ok (.iload 4, 2) := by decide +kernel
theorem dK_compute_158 : decode prog_1_method_36_code 158 = .ok (.iload 5, 2) := by decide +kernel
theorem dK_compute_160 : decode prog_1_method_36_code 160 = .ok (.iand, 1) := by decide +kernel
theorem dK_compute_161 : decode prog_1_method_36_code 161 = .ok (.iastore, 1) := by decide +kernel
theorem dK_compute_162 : decode prog_1_method_36_code 162 = .ok (.iconst 0, 1) := by decide +kernel
theorem dK_compute_163 : decode prog_1_method_36_code 163 = .ok (.ireturn, 1) := by decide +kernel
theorem dK_compute_164 : decode prog_1_method_36_code 164 = .ok (.aload_n 2, 1) := by decide +kernel
theorem dK_compute_165 : decode prog_1_method_36_code 165 = .ok (.iload_n 3, 1) := by decide +kernel
theorem dK_compute_166 : decode prog_1_method_36_code 166 = .ok (.iload 4, 2) := by decide +kernel
theorem dK_compute_168 : decode prog_1_method_36_code 168 = .ok (.iload 5, 2) := by decide +kernel
theorem dK_compute_170 : decode prog_1_method_36_code 170 = .ok (.ixor, 1) := by decide +kernel
theorem dK_compute_171 : decode prog_1_method_36_code 171 = .ok (.iastore, 1) := by decide +kernel
theorem dK_compute_172 : decode prog_1_method_36_code 172 = .ok (.iconst 0, 1) := by decide +kernel
theorem dK_compute_173 : decode prog_1_method_36_code 173 = .ok (.ireturn, 1) := by decide +kernel
theorem dK_compute_174 : decode prog_1_method_36_code 174 = .ok (.iconst 0, 1) := by decide +kernel
theorem dK_compute_175 : decode prog_1_method_36_code 175 = .ok (.ireturn, 1) := by decide +kernel
theorem dK_compute_176 : decode prog_1_method_36_code 176 = .ok (.iconst 3, 1) := by decide +kernel
theorem dK_compute_177 : decode prog_1_method_36_code 177 = .ok (.ireturn, 1) := by decide +kernel
theorem dK_counterAfter_0 : decode prog_1_method_34_code 0 = .ok (.aload_n 0, 1) := by decide +kernel
theorem dK_counterAfter_1 : decode prog_1_method_34_code 1 = .ok (.getfield 78, 3) := by decide +kernel
theorem dK_counterAfter_4 : decode prog_1_method_34_code 4 = .ok (.iload_n 1, 1) := by decide +kernel
theorem dK_counterAfter_5 : decode prog_1_method_34_code 5 = .ok (.invokestatic 172, 3) := by decide +kernel
theorem dK_counterAfter_8 : decode prog_1_method_34_code 8 = .ok (.iaload, 1) := by decide +kernel
theorem dK_counterAfter_9 : decode prog_1_method_34_code 9 = .ok (.istore_n 2, 1) := by decide +kernel
theorem dK_counterAfter_10 : decode prog_1_method_34_code 10 = .ok (.iload_n 1, 1) := by decide +kernel
theorem dK_counterAfter_11 : decode prog_1_method_34_code 11 = .ok (.invokestatic 159, 3) := by decide +kernel
theorem dK_counterAfter_14 : decode prog_1_method_34_code 14 = .ok (.istore_n 3, 1) := by decide +kernel
theorem dK_counterAfter_15 : decode prog_1_method_34_code 15 = .ok (.iload_n 3, 1) := by decide +kernel
theorem dK_counterAfter_16 : decode prog_1_method_34_code 16 = .ok (.bipush 10, 2) := by decide +kernel
theorem dK_counterAfter_18 : decode prog_1_method_34_code 18 = .ok (.if_icmp .eq 23, 3) := by decide +kernel
theorem dK_counterAfter_21 : decode prog_1_method_34_code 21 = .ok (.iload_n 3, 1) := by decide +kernel
theorem dK_counterAfter_22 : decode prog_1_method_34_code 22 = .ok (.bipush 11, 2) := by decide +kernel
theorem dK_counterAfter_24 : decode prog_1_method_34_code 24 = .ok (.if_icmp .ne 7, 3) := by decide +kernel
theorem dK_counterAfter_27 : decode prog_1_method_34_code 27 = .ok (.iload_n 2, 1) := by decide +kernel
theorem dK_counterAfter_28 : decode prog_1_method_34_code 28 = .ok (.ifCond .eq 13, 3) := by decide +kernel
theorem dK_counterAfter_31 : decode prog_1_method_34_code 31 = .ok (.iload_n 3, 1) := by decide +kernel
theorem dK_counterAfter_32 : decode prog_1_method_34_code 32 = .ok (.bipush 12, 2) := by decide +kernel
theorem dK_counterAfter_34 : decode prog_1_method_34_code 34 = .ok (.if_icmp .ne 11, 3) := by decide +kernel
theorem dK_counterAfter_37 : decode prog_1_method_34_code 37 = .ok (.iload_n 2, 1) := by decide +kernel
theorem dK_counterAfter_38 : decode prog_1_method_34_code 38 = .ok (.ifCond .ge 7, 3) := by decide +kernel
theorem dK_counterAfter_41 : decode prog_1_method_34_code 41 = .ok (.iconst 1, 1) := by decide +kernel
theorem dK_counterAfter_42 : decode prog_1_method_34_code 42 = .ok (.goto 4, 3) := by decide +kernel
theorem dK_counterAfter_45 : decode prog_1_method_34_code 45 = .ok (.iconst 0, 1) := by decide +kernel
theorem dK_counterAfter_46 : decode prog_1_method_34_code 46 = .ok (.istore 4, 2) := by decide +kernel
theorem dK_counterAfter_48 : decode prog_1_method_34_code 48 = .ok (.iload 4, 2) := by decide +kernel
theorem dK_counterAfter_50 : decode prog_1_method_34_code 50 = .ok (.ifCond .eq 10, 3) := by decide +kernel
theorem dK_counterAfter_53 : decode prog_1_method_34_code 53 = .ok (.iload_n 1, 1) := by decide +kernel
theorem dK_counterAfter_54 : decode prog_1_method_34_code 54 = .ok (.invokestatic 136, 3) := by decide +kernel
theorem dK_counterAfter_57 : decode prog_1_method_34_code 57 = .ok (.goto 9, 3) := by decide +kernel
theorem dK_counterAfter_60 : decode prog_1_method_34_code 60 = .ok (.aload_n 0, 1) := by decide +kernel
theorem dK_counterAfter_61 : decode prog_1_method_34_code 61 = .ok (.getfield 118, 3) := by decide +kernel
theorem dK_counterAfter_64 : decode prog_1_method_34_code 64 = .ok (.iconst 1, 1) := by decide +kernel
theorem dK_counterAfter_65 : decode prog_1_method_34_code 65 = .ok (.iadd, 1) := by decide +kernel
theorem dK_counterAfter_66 : decode prog_1_method_34_code 66 = .ok (.ireturn, 1) := by decide +kernel
theorem dK_settleFirst_0 : decode prog_1_method_33_code 0 = .ok (.aload_n 0, 1) := by decide +kernel
theorem dK_settleFirst_1 : decode prog_1_method_33_code 1 = .ok (.dup, 1) := by decide +kernel
theorem dK_settleFirst_2 : decode prog_1_method_33_code 2 = .ok (.getfield 166, 3) := by decide +kernel
theorem dK_settleFirst_5 : decode prog_1_method_33_code 5 = .ok (.iconst 1, 1) := by decide +kernel
theorem dK_settleFirst_6 : decode prog_1_method_33_code 6 = .ok (.iadd, 1) := by decide +kernel
theorem dK_settleFirst_7 : decode prog_1_method_33_code 7 = .ok (.putfield 166, 3) := by decide +kernel
theorem dK_settleFirst_10 : decode prog_1_method_33_code 10 = .ok (.aload_n 0, 1) := by decide +kernel
theorem dK_settleFirst_11 : decode prog_1_method_33_code 11 = .ok (.getfield 15, 3) := by decide +kernel
theorem dK_settleFirst_14 : decode prog_1_method_33_code 14 = .ok (.iload_n 1, 1) := by decide +kernel
theorem dK_settleFirst_15 : decode prog_1_method_33_code 15 = .ok (.aaload, 1) := by decide +kernel
theorem dK_settleFirst_16 : decode prog_1_method_33_code 16 = .ok (.getfield 96, 3) := by decide +kernel
theorem dK_settleFirst_19 : decode prog_1_method_33_code 19 = .ok (.iconst 1, 1) := by decide +kernel
theorem dK_settleFirst_20 : decode prog_1_method_33_code 20 = .ok (.if_icmp .ne 7, 3) := by decide +kernel
theorem dK_settleFirst_23 : decode prog_1_method_33_code 23 = .ok (.iconst 1, 1) := by decide +kernel
theorem dK_settleFirst_24 : decode prog_1_method_33_code 24 = .ok (.goto 4, 3) := by decide +kernel
theorem dK_settleFirst_27 : decode prog_1_method_33_code 27 = .ok (.iconst 0, 1) := by decide +kernel
theorem dK_settleFirst_28 : decode prog_1_method_33_code 28 = .ok (.istore_n 3, 1) := by decide +kernel
theorem dK_settleFirst_29 : decode prog_1_method_33_code 29 = .ok (.iload_n 3, 1) := by decide +kernel
theorem dK_settleFirst_30 : decode prog_1_method_33_code 30 = .ok (.ifCond .eq 19, 3) := by decide +kernel
theorem dK_settleFirst_33 : decode prog_1_method_33_code 33 = .ok (.iload_n 2, 1) := by decide +kernel
theorem dK_settleFirst_34 : decode prog_1_method_33_code 34 = .ok (.ifCond .ne 15, 3) := by decide +kernel
theorem dK_settleFirst_37 : decode prog_1_method_33_code 37 = .ok (.aload_n 0, 1) := by decide +kernel
theorem dK_settleFirst_38 : decode prog_1_method_33_code 38 = .ok (.getfield 166, 3) := by decide +kernel
theorem dK_settleFirst_41 : decode prog_1_method_33_code 41 = .ok (.aload_n 0, 1) := by decide +kernel
theorem dK_settleFirst_42 : decode prog_1_method_33_code 42 = .ok (.getfield 53, 3) := by decide +kernel
theorem dK_settleFirst_45 : decode prog_1_method_33_code 45 = .ok (.if_icmp .ge 4, 3) := by decide +kernel
theorem dK_settleFirst_48 : decode prog_1_method_33_code 48 = .ok (.return_, 1) := by decide +kernel
theorem dK_settleFirst_49 : decode prog_1_method_33_code 49 = .ok (.aload_n 0, 1) := by decide +kernel
theorem dK_settleFirst_50 : decode prog_1_method_33_code 50 = .ok (.getfield 22, 3) := by decide +kernel
theorem dK_settleFirst_53 : decode prog_1_method_33_code 53 = .ok (.invokevirtual 169, 3) := by decide +kernel
theorem dK_settleFirst_56 : decode prog_1_method_33_code 56 = .ok (.iload_n 3, 1) := by decide +kernel
theorem dK_settleFirst_57 : decode prog_1_method_33_code 57 = .ok (.ifCond .eq 11, 3) := by decide +kernel
theorem dK_settleFirst_60 : decode prog_1_method_33_code 60 = .ok (.aload_n 0, 1) := by decide +kernel
theorem dK_settleFirst_61 : decode prog_1_method_33_code 61 = .ok (.getfield 22, 3) := by decide +kernel
theorem dK_settleFirst_64 : decode prog_1_method_33_code 64 = .ok (.iload_n 1, 1) := by decide +kernel
theorem dK_settleFirst_65 : decode prog_1_method_33_code 65 = .ok (.invokevirtual 139, 3) := by decide +kernel
theorem dK_settleFirst_68 : decode prog_1_method_33_code 68 = .ok (.aload_n 0, 1) := by decide +kernel
theorem dK_settleFirst_69 : decode prog_1_method_33_code 69 = .ok (.iconst 0, 1) := by decide +kernel
theorem dK_settleFirst_70 : decode prog_1_method_33_code 70 = .ok (.putfield 166, 3) := by decide +kernel
theorem dK_settleFirst_73 : decode prog_1_method_33_code 73 = .ok (.return_, 1) := by decide +kernel
theorem dK_state_0 : decode prog_1_method_9_code 0 = .ok (.iload_n 1, 1) := by decide +kernel
theorem dK_state_1 : decode prog_1_method_9_code 1 = .ok (.iconst 0, 1) := by decide +kernel
theorem dK_state_2 : decode prog_1_method_9_code 2 = .ok (.iconst 5, 1) := by decide +kernel
theorem dK_state_3 : decode prog_1_method_9_code 3 = .ok (.invokestatic 58, 3) := by decide +kernel
theorem dK_state_6 : decode prog_1_method_9_code 6 = .ok (.ifCond .eq 15, 3) := by decide +kernel
theorem dK_state_9 : decode prog_1_method_9_code 9 = .ok (.aload_n 0, 1) := by decide +kernel
theorem dK_state_10 : decode prog_1_method_9_code 10 = .ok (.getfield 15, 3) := by decide +kernel
theorem dK_state_13 : decode prog_1_method_9_code 13 = .ok (.iload_n 1, 1) := by decide +kernel
theorem dK_state_14 : decode prog_1_method_9_code 14 = .ok (.aaload, 1) := by decide +kernel
theorem dK_state_15 : decode prog_1_method_9_code 15 = .ok (.getfield 96, 3) := by decide +kernel
theorem dK_state_18 : decode prog_1_method_9_code 18 = .ok (.goto 4, 3) := by decide +kernel
theorem dK_state_21 : decode prog_1_method_9_code 21 = .ok (.iconst (-1), 1) := by decide +kernel
theorem dK_state_22 : decode prog_1_method_9_code 22 = .ok (.ireturn, 1) := by decide +kernel
theorem dK_fault_0 : decode prog_1_method_10_code 0 = .ok (.aload_n 0, 1) := by decide +kernel
theorem dK_fault_1 : decode prog_1_method_10_code 1 = .ok (.iload_n 1, 1) := by decide +kernel
theorem dK_fault_2 : decode prog_1_method_10_code 2 = .ok (.invokevirtual 74, 3) := by decide +kernel
theorem dK_fault_5 : decode prog_1_method_10_code 5 = .ok (.astore_n 2, 1) := by decide +kernel
theorem dK_fault_6 : decode prog_1_method_10_code 6 = .ok (.aload_n 2, 1) := by decide +kernel
theorem dK_fault_7 : decode prog_1_method_10_code 7 = .ok (.ifnonnull 7, 3) := by decide +kernel
theorem dK_fault_10 : decode prog_1_method_10_code 10 = .ok (.iconst 0, 1) := by decide +kernel
theorem dK_fault_11 : decode prog_1_method_10_code 11 = .ok (.goto 7, 3) := by decide +kernel
theorem dK_fault_14 : decode prog_1_method_10_code 14 = .ok (.aload_n 2, 1) := by decide +kernel
theorem dK_fault_15 : decode prog_1_method_10_code 15 = .ok (.getfield 115, 3) := by decide +kernel
theorem dK_fault_18 : decode prog_1_method_10_code 18 = .ok (.ireturn, 1) := by decide +kernel
theorem dK_register_0 : decode prog_1_method_11_code 0 = .ok (.aload_n 0, 1) := by decide +kernel
theorem dK_register_1 : decode prog_1_method_11_code 1 = .ok (.iload_n 1, 1) := by decide +kernel
theorem dK_register_2 : decode prog_1_method_11_code 2 = .ok (.invokevirtual 74, 3) := by decide +kernel
theorem dK_register_5 : decode prog_1_method_11_code 5 = .ok (.astore_n 3, 1) := by decide +kernel
theorem dK_register_6 : decode prog_1_method_11_code 6 = .ok (.aload_n 3, 1) := by decide +kernel
theorem dK_register_7 : decode prog_1_method_11_code 7 = .ok (.ifnull 13, 3) := by decide +kernel
theorem dK_register_10 : decode prog_1_method_11_code 10 = .ok (.iload_n 2, 1) := by decide +kernel
theorem dK_register_11 : decode prog_1_method_11_code 11 = .ok (.iconst 0, 1) := by decide +kernel
theorem dK_register_12 : decode prog_1_method_11_code 12 = .ok (.bipush 7, 2) := by decide +kernel
theorem dK_register_14 : decode prog_1_method_11_code 14 = .ok (.invokestatic 58, 3) := by decide +kernel
theorem dK_register_17 : decode prog_1_method_11_code 17 = .ok (.ifCond .ne 7, 3) := by decide +kernel
theorem dK_register_20 : decode prog_1_method_11_code 20 = .ok (.iconst 0, 1) := by decide +kernel
theorem dK_register_21 : decode prog_1_method_11_code 21 = .ok (.goto 9, 3) := by decide +kernel
theorem dK_register_24 : decode prog_1_method_11_code 24 = .ok (.aload_n 3, 1) := by decide +kernel
theorem dK_register_25 : decode prog_1_method_11_code 25 = .ok (.getfield 78, 3) := by decide +kernel
theorem dK_register_28 : decode prog_1_method_11_code 28 = .ok (.iload_n 2, 1) := by decide +kernel
theorem dK_register_29 : decode prog_1_method_11_code 29 = .ok (.iaload, 1) := by decide +kernel
theorem dK_register_30 : decode prog_1_method_11_code 30 = .ok (.ireturn, 1) := by decide +kernel
theorem dK_counter_0 : decode prog_1_method_12_code 0 = .ok (.aload_n 0, 1) := by decide +kernel
theorem dK_counter_1 : decode prog_1_method_12_code 1 = .ok (.iload_n 1, 1) := by decide +kernel
theorem dK_counter_2 : decode prog_1_method_12_code 2 = .ok (.invokevirtual 74, 3) := by decide +kernel
theorem dK_counter_5 : decode prog_1_method_12_code 5 = .ok (.astore_n 2, 1) := by decide +kernel
theorem dK_counter_6 : decode prog_1_method_12_code 6 = .ok (.aload_n 2, 1) := by decide +kernel
theorem dK_counter_7 : decode prog_1_method_12_code 7 = .ok (.ifnonnull 7, 3) := by decide +kernel
theorem dK_counter_10 : decode prog_1_method_12_code 10 = .ok (.iconst (-1), 1) := by decide +kernel
theorem dK_counter_11 : decode prog_1_method_12_code 11 = .ok (.goto 7, 3) := by decide +kernel
theorem dK_counter_14 : decode prog_1_method_12_code 14 = .ok (.aload_n 2, 1) := by decide +kernel
theorem dK_counter_15 : decode prog_1_method_12_code 15 = .ok (.getfield 118, 3) := by decide +kernel
theorem dK_counter_18 : decode prog_1_method_12_code 18 = .ok (.ireturn, 1) := by decide +kernel
theorem dK_caller_0 : decode prog_1_method_13_code 0 = .ok (.aload_n 0, 1) := by decide +kernel
theorem dK_caller_1 : decode prog_1_method_13_code 1 = .ok (.iload_n 1, 1) := by decide +kernel
theorem dK_caller_2 : decode prog_1_method_13_code 2 = .ok (.invokevirtual 74, 3) := by decide +kernel
theorem dK_caller_5 : decode prog_1_method_13_code 5 = .ok (.astore_n 2, 1) := by decide +kernel
theorem dK_caller_6 : decode prog_1_method_13_code 6 = .ok (.aload_n 2, 1) := by decide +kernel
theorem dK_caller_7 : decode prog_1_method_13_code 7 = .ok (.ifnonnull 7, 3) := by decide +kernel
theorem dK_caller_10 : decode prog_1_method_13_code 10 = .ok (.iconst (-1), 1) := by decide +kernel
theorem dK_caller_11 : decode prog_1_method_13_code 11 = .ok (.goto 7, 3) := by decide +kernel
theorem dK_caller_14 : decode prog_1_method_13_code 14 = .ok (.aload_n 2, 1) := by decide +kernel
theorem dK_caller_15 : decode prog_1_method_13_code 15 = .ok (.getfield 121, 3) := by decide +kernel
theorem dK_caller_18 : decode prog_1_method_13_code 18 = .ok (.ireturn, 1) := by decide +kernel
theorem dK_capability_0 : decode prog_1_method_14_code 0 = .ok (.iload_n 1, 1) := by decide +kernel
theorem dK_capability_1 : decode prog_1_method_14_code 1 = .ok (.iload_n 2, 1) := by decide +kernel
theorem dK_capability_2 : decode prog_1_method_14_code 2 = .ok (.invokestatic 81, 3) := by decide +kernel
theorem dK_capability_5 : decode prog_1_method_14_code 5 = .ok (.istore 4, 2) := by decide +kernel
theorem dK_capability_7 : decode prog_1_method_14_code 7 = .ok (.iload 4, 2) := by decide +kernel
theorem dK_capability_9 : decode prog_1_method_14_code 9 = .ok (.iconst (-1), 1) := by decide +kernel
theorem dK_capability_10 : decode prog_1_method_14_code 10 = .ok (.if_icmp .eq 15, 3) := by decide +kernel
theorem dK_capability_13 : decode prog_1_method_14_code 13 = .ok (.aload_n 0, 1) := by decide +kernel
theorem dK_capability_14 : decode prog_1_method_14_code 14 = .ok (.getfield 33, 3) := by decide +kernel
theorem dK_capability_17 : decode prog_1_method_14_code 17 = .ok (.iload 4, 2) := by decide +kernel
theorem dK_capability_19 : decode prog_1_method_14_code 19 = .ok (.invokevirtual 84, 3) := by decide +kernel
theorem dK_capability_22 : decode prog_1_method_14_code 22 = .ok (.ifCond .ne 7, 3) := by decide +kernel
theorem dK_capability_25 : decode prog_1_method_14_code 25 = .ok (.iconst (-1), 1) := by decide +kernel
theorem dK_capability_26 : decode prog_1_method_14_code 26 = .ok (.goto 13, 3) := by decide +kernel
theorem dK_capability_29 : decode prog_1_method_14_code 29 = .ok (.aload_n 0, 1) := by decide +kernel
theorem dK_capability_30 : decode prog_1_method_14_code 30 = .ok (.getfield 33, 3) := by decide +kernel
theorem dK_capability_33 : decode prog_1_method_14_code 33 = .ok (.iload 4, 2) := by decide +kernel
theorem dK_capability_35 : decode prog_1_method_14_code 35 = .ok (.iload_n 3, 1) := by decide +kernel
theorem dK_capability_36 : decode prog_1_method_14_code 36 = .ok (.invokevirtual 124, 3) := by decide +kernel
theorem dK_capability_39 : decode prog_1_method_14_code 39 = .ok (.ireturn, 1) := by decide +kernel
theorem dG_partOf_0 : decode prog_2_method_5_code 0 = .ok (.iload_n 2, 1) := by decide +kernel
theorem dG_partOf_1 : decode prog_2_method_5_code 1 = .ok (.tableswitch 59 0 3 #[31, 38, 45, 52], 31) := by decide +kernel
theorem dG_partOf_32 : decode prog_2_method_5_code 32 = .ok (.aload_n 0, 1) := by decide +kernel
theorem dG_partOf_33 : decode prog_2_method_5_code 33 = .ok (.getfield 9, 3) := by decide +kernel
theorem dG_partOf_36 : decode prog_2_method_5_code 36 = .ok (.iload_n 1, 1) := by decide +kernel
theorem dG_partOf_37 : decode prog_2_method_5_code 37 = .ok (.iaload, 1) := by decide +kernel
theorem dG_partOf_38 : decode prog_2_method_5_code 38 = .ok (.ireturn, 1) := by decide +kernel
theorem dG_partOf_39 : decode prog_2_method_5_code 39 = .ok (.aload_n 0, 1) := by decide +kernel
theorem dG_partOf_40 : decode prog_2_method_5_code 40 = .ok (.getfield 15, 3) := by decide +kernel
theorem dG_partOf_43 : decode prog_2_method_5_code 43 = .ok (.iload_n 1, 1) := by decide +kernel
theorem dG_partOf_44 : decode prog_2_method_5_code 44 = .ok (.iaload, 1) := by decide +kernel
theorem dG_partOf_45 : decode prog_2_method_5_code 45 = .ok (.ireturn, 1) := by decide +kernel
theorem dG_partOf_46 : decode prog_2_method_5_code 46 = .ok (.aload_n 0, 1) := by decide +kernel
theorem dG_partOf_47 : decode prog_2_method_5_code 47 = .ok (.getfield 18, 3) := by decide +kernel
theorem dG_partOf_50 : decode prog_2_method_5_code 50 = .ok (.iload_n 1, 1) := by decide +kernel
theorem dG_partOf_51 : decode prog_2_method_5_code 51 = .ok (.iaload, 1) := by decide +kernel
theorem dG_partOf_52 : decode prog_2_method_5_code 52 = .ok (.ireturn, 1) := by decide +kernel
theorem dG_partOf_53 : decode prog_2_method_5_code 53 = .ok (.aload_n 0, 1) := by decide +kernel
theorem dG_partOf_54 : decode prog_2_method_5_code 54 = .ok (.getfield 21, 3) := by decide +kernel
theorem dG_partOf_57 : decode prog_2_method_5_code 57 = .ok (.iload_n 1, 1) := by decide +kernel
theorem dG_partOf_58 : decode prog_2_method_5_code 58 = .ok (.iaload, 1) := by decide +kernel
theorem dG_partOf_59 : decode prog_2_method_5_code 59 = .ok (.ireturn, 1) := by decide +kernel
theorem dG_partOf_60 : decode prog_2_method_5_code 60 = .ok (.iconst (-1), 1) := by decide +kernel
theorem dG_partOf_61 : decode prog_2_method_5_code 61 = .ok (.ireturn, 1) := by decide +kernel
theorem dK_descendants_0 : decode prog_1_method_15_code 0 = .ok (.iload_n 1, 1) := by decide +kernel
theorem dK_descendants_1 : decode prog_1_method_15_code 1 = .ok (.iload_n 2, 1) := by decide +kernel
theorem dK_descendants_2 : decode prog_1_method_15_code 2 = .ok (.invokestatic 81, 3) := by decide +kernel
theorem dK_descendants_5 : decode prog_1_method_15_code 5 = .ok (.istore_n 3, 1) := by decide +kernel
theorem dK_descendants_6 : decode prog_1_method_15_code 6 = .ok (.iload_n 3, 1) := by decide +kernel
theorem dK_descendants_7 : decode prog_1_method_15_code 7 = .ok (.iconst (-1), 1) := by decide +kernel
theorem dK_descendants_8 : decode prog_1_method_15_code 8 = .ok (.if_icmp .eq 14, 3) := by decide +kernel
theorem dK_descendants_11 : decode prog_1_method_15_code 11 = .ok (.aload_n 0, 1) := by decide +kernel
theorem dK_descendants_12 : decode prog_1_method_15_code 12 = .ok (.getfield 33, 3) := by decide +kernel
theorem dK_descendants_15 : decode prog_1_method_15_code 15 = .ok (.iload_n 3, 1) := by decide +kernel
theorem dK_descendants_16 : decode prog_1_method_15_code 16 = .ok (.invokevirtual 84, 3) := by decide +kernel
theorem dK_descendants_19 : decode prog_1_method_15_code 19 = .ok (.ifCond .ne 7, 3) := by decide +kernel
theorem dK_descendants_22 : decode prog_1_method_15_code 22 = .ok (.iconst (-1), 1) := by decide +kernel
theorem dK_descendants_23 : decode prog_1_method_15_code 23 = .ok (.goto 11, 3) := by decide +kernel
theorem dK_descendants_26 : decode prog_1_method_15_code 26 = .ok (.aload_n 0, 1) := by decide +kernel
theorem dK_descendants_27 : decode prog_1_method_15_code 27 = .ok (.getfield 33, 3) := by decide +kernel
theorem dK_descendants_30 : decode prog_1_method_15_code 30 = .ok (.iload_n 3, 1) := by decide +kernel
theorem dK_descendants_31 : decode prog_1_method_15_code 31 = .ok (.invokevirtual 127, 3) := by decide +kernel
theorem dK_descendants_34 : decode prog_1_method_15_code 34 = .ok (.ireturn, 1) := by decide +kernel
theorem dG_countBelow_0 : decode prog_2_method_10_code 0 = .ok (.iconst 0, 1) := by decide +kernel
theorem dG_countBelow_1 : decode prog_2_method_10_code 1 = .ok (.istore_n 2, 1) := by decide +kernel
theorem dG_countBelow_2 : decode prog_2_method_10_code 2 = .ok (.iconst 0, 1) := by decide +kernel
theorem dG_countBelow_3 : decode prog_2_method_10_code 3 = .ok (.istore_n 3, 1) := by decide +kernel
theorem dG_countBelow_4 : decode prog_2_method_10_code 4 = .ok (.iload_n 3, 1) := by decide +kernel
theorem dG_countBelow_5 : decode prog_2_method_10_code 5 = .ok (.bipush 48, 2) := by decide +kernel
theorem dG_countBelow_7 : decode prog_2_method_10_code 7 = .ok (.if_icmp .ge 21, 3) := by decide +kernel
theorem dG_countBelow_10 : decode prog_2_method_10_code 10 = .ok (.aload_n 0, 1) := by decide +kernel
theorem dG_countBelow_11 : decode prog_2_method_10_code 11 = .ok (.iload_n 3, 1) := by decide +kernel
theorem dG_countBelow_12 : decode prog_2_method_10_code 12 = .ok (.iload_n 1, 1) := by decide +kernel
theorem dG_countBelow_13 : decode prog_2_method_10_code 13 = .ok (.invokevirtual 40, 3) := by decide +kernel
theorem dG_countBelow_16 : decode prog_2_method_10_code 16 = .ok (.ifCond .eq 6, 3) := by decide +kernel
theorem dG_countBelow_19 : decode prog_2_method_10_code 19 = .ok (.iinc 2 1, 3) := by decide +kernel
theorem dG_countBelow_22 : decode prog_2_method_10_code 22 = .ok (.iinc 3 1, 3) := by decide +kernel
theorem dG_countBelow_25 : decode prog_2_method_10_code 25 = .ok (.goto (-21), 3) := by decide +kernel
theorem dG_countBelow_28 : decode prog_2_method_10_code 28 = .ok (.iload_n 2, 1) := by decide +kernel
theorem dG_countBelow_29 : decode prog_2_method_10_code 29 = .ok (.ireturn, 1) := by decide +kernel
theorem dK_inRow_0 : decode prog_1_method_16_code 0 = .ok (.iload_n 1, 1) := by decide +kernel
theorem dK_inRow_1 : decode prog_1_method_16_code 1 = .ok (.iconst (-1), 1) := by decide +kernel
theorem dK_inRow_2 : decode prog_1_method_16_code 2 = .ok (.if_icmp .ne 12, 3) := by decide +kernel
theorem dK_inRow_5 : decode prog_1_method_16_code 5 = .ok (.aload_n 0, 1) := by decide +kernel
theorem dK_inRow_6 : decode prog_1_method_16_code 6 = .ok (.getfield 22, 3) := by decide +kernel
theorem dK_inRow_9 : decode prog_1_method_16_code 9 = .ok (.iload_n 2, 1) := by decide +kernel
theorem dK_inRow_10 : decode prog_1_method_16_code 10 = .ok (.invokevirtual 108, 3) := by decide +kernel
theorem dK_inRow_13 : decode prog_1_method_16_code 13 = .ok (.ireturn, 1) := by decide +kernel
theorem dK_inRow_14 : decode prog_1_method_16_code 14 = .ok (.iload_n 1, 1) := by decide +kernel
theorem dK_inRow_15 : decode prog_1_method_16_code 15 = .ok (.iconst 0, 1) := by decide +kernel
theorem dK_inRow_16 : decode prog_1_method_16_code 16 = .ok (.iconst 3, 1) := by decide +kernel
theorem dK_inRow_17 : decode prog_1_method_16_code 17 = .ok (.invokestatic 58, 3) := by decide +kernel
theorem dK_inRow_20 : decode prog_1_method_16_code 20 = .ok (.ifCond .eq 16, 3) := by decide +kernel
theorem dK_inRow_23 : decode prog_1_method_16_code 23 = .ok (.aload_n 0, 1) := by decide +kernel
theorem dK_inRow_24 : decode prog_1_method_16_code 24 = .ok (.getfield 26, 3) := by decide +kernel
theorem dK_inRow_27 : decode prog_1_method_16_code 27 = .ok (.iload_n 1, 1) := by decide +kernel
theorem dK_inRow_28 : decode prog_1_method_16_code 28 = .ok (.aaload, 1) := by decide +kernel
theorem dK_inRow_29 : decode prog_1_method_16_code 29 = .ok (.iload_n 2, 1) := by decide +kernel
theorem dK_inRow_30 : decode prog_1_method_16_code 30 = .ok (.invokevirtual 108, 3) := by decide +kernel
theorem dK_inRow_33 : decode prog_1_method_16_code 33 = .ok (.goto 4, 3) := by decide +kernel
theorem dK_inRow_36 : decode prog_1_method_16_code 36 = .ok (.iconst (-1), 1) := by decide +kernel
theorem dK_inRow_37 : decode prog_1_method_16_code 37 = .ok (.ireturn, 1) := by decide +kernel
theorem dK_printed_0 : decode prog_1_method_17_code 0 = .ok (.aload_n 0, 1) := by decide +kernel
theorem dK_printed_1 : decode prog_1_method_17_code 1 = .ok (.getfield 40, 3) := by decide +kernel
theorem dK_printed_4 : decode prog_1_method_17_code 4 = .ok (.invokevirtual 130, 3) := by decide +kernel
theorem dK_printed_7 : decode prog_1_method_17_code 7 = .ok (.ireturn, 1) := by decide +kernel
theorem dP_count_0 : decode prog_4_method_3_code 0 = .ok (.aload_n 0, 1) := by decide +kernel
theorem dP_count_1 : decode prog_4_method_3_code 1 = .ok (.getfield 15, 3) := by decide +kernel
theorem dP_count_4 : decode prog_4_method_3_code 4 = .ok (.ireturn, 1) := by decide +kernel
theorem dK_print_0 : decode prog_1_method_18_code 0 = .ok (.aload_n 0, 1) := by decide +kernel
theorem dK_print_1 : decode prog_1_method_18_code 1 = .ok (.getfield 40, 3) := by decide +kernel
theorem dK_print_4 : decode prog_1_method_18_code 4 = .ok (.iload_n 1, 1) := by decide +kernel
theorem dK_print_5 : decode prog_1_method_18_code 5 = .ok (.invokevirtual 133, 3) := by decide +kernel
theorem dK_print_8 : decode prog_1_method_18_code 8 = .ok (.ireturn, 1) := by decide +kernel
theorem dP_backFromLatest_0 : decode prog_4_method_4_code 0 = .ok (.iload_n 1, 1) := by decide +kernel
theorem dP_backFromLatest_1 : decode prog_4_method_4_code 1 = .ok (.iconst 0, 1) := by decide +kernel
theorem dP_backFromLatest_2 : decode prog_4_method_4_code 2 = .ok (.bipush 15, 2) := by decide +kernel
theorem dP_backFromLatest_4 : decode prog_4_method_4_code 4 = .ok (.invokestatic 19, 3) := by decide +kernel
theorem dP_backFromLatest_7 : decode prog_4_method_4_code 7 = .ok (.ifCond .eq 15, 3) := by decide +kernel
theorem dP_backFromLatest_10 : decode prog_4_method_4_code 10 = .ok (.iload_n 1, 1) := by decide +kernel
theorem dP_backFromLatest_11 : decode prog_4_method_4_code 11 = .ok (.aload_n 0, 1) := by decide +kernel
theorem dP_backFromLatest_12 : decode prog_4_method_4_code 12 = .ok (.getfield 15, 3) := by decide +kernel
theorem dP_backFromLatest_15 : decode prog_4_method_4_code 15 = .ok (.if_icmp .ge 7, 3) := by decide +kernel
theorem dP_backFromLatest_18 : decode prog_4_method_4_code 18 = .ok (.iconst 1, 1) := by decide +kernel
theorem dP_backFromLatest_19 : decode prog_4_method_4_code 19 = .ok (.goto 4, 3) := by decide +kernel
theorem dP_backFromLatest_22 : decode prog_4_method_4_code 22 = .ok (.iconst 0, 1) := by decide +kernel
theorem dP_backFromLatest_23 : decode prog_4_method_4_code 23 = .ok (.istore_n 2, 1) := by decide +kernel
theorem dP_backFromLatest_24 : decode prog_4_method_4_code 24 = .ok (.iload_n 2, 1) := by decide +kernel
theorem dP_backFromLatest_25 : decode prog_4_method_4_code 25 = .ok (.ifCond .eq 22, 3) := by decide +kernel
theorem dP_backFromLatest_28 : decode prog_4_method_4_code 28 = .ok (.aload_n 0, 1) := by decide +kernel
theorem dP_backFromLatest_29 : decode prog_4_method_4_code 29 = .ok (.getfield 9, 3) := by decide +kernel
theorem dP_backFromLatest_32 : decode prog_4_method_4_code 32 = .ok (.aload_n 0, 1) := by decide +kernel
theorem dP_backFromLatest_33 : decode prog_4_method_4_code 33 = .ok (.getfield 15, 3) := by decide +kernel
theorem dP_backFromLatest_36 : decode prog_4_method_4_code 36 = .ok (.iconst 1, 1) := by decide +kernel
theorem dP_backFromLatest_37 : decode prog_4_method_4_code 37 = .ok (.isub, 1) := by decide +kernel
theorem dP_backFromLatest_38 : decode prog_4_method_4_code 38 = .ok (.iload_n 1, 1) := by decide +kernel
theorem dP_backFromLatest_39 : decode prog_4_method_4_code 39 = .ok (.isub, 1) := by decide +kernel
theorem dP_backFromLatest_40 : decode prog_4_method_4_code 40 = .ok (.bipush 16, 2) := by decide +kernel
theorem dP_backFromLatest_42 : decode prog_4_method_4_code 42 = .ok (.irem, 1) := by decide +kernel
theorem dP_backFromLatest_43 : decode prog_4_method_4_code 43 = .ok (.iaload, 1) := by decide +kernel
theorem dP_backFromLatest_44 : decode prog_4_method_4_code 44 = .ok (.goto 4, 3) := by decide +kernel
theorem dP_backFromLatest_47 : decode prog_4_method_4_code 47 = .ok (.iconst 0, 1) := by decide +kernel
theorem dP_backFromLatest_48 : decode prog_4_method_4_code 48 = .ok (.ireturn, 1) := by decide +kernel
theorem dM_init_0 : decode prog_7_method_1_code 0 = .ok (.aload_n 0, 1) := by decide +kernel
theorem dM_init_1 : decode prog_7_method_1_code 1 = .ok (.invokespecial 1, 3) := by decide +kernel
theorem dM_init_4 : decode prog_7_method_1_code 4 = .ok (.aload_n 0, 1) := by decide +kernel
theorem dM_init_5 : decode prog_7_method_1_code 5 = .ok (.sipush 128, 3) := by decide +kernel
theorem dM_init_8 : decode prog_7_method_1_code 8 = .ok (.newarray .int, 2) := by decide +kernel
theorem dM_init_10 : decode prog_7_method_1_code 10 = .ok (.putfield 7, 3) := by decide +kernel
theorem dM_init_13 : decode prog_7_method_1_code 13 = .ok (.aload_n 0, 1) := by decide +kernel
theorem dM_init_14 : decode prog_7_method_1_code 14 = .ok (.bipush 6, 2) := by decide +kernel
theorem dM_init_16 : decode prog_7_method_1_code 16 = .ok (.newarray .int, 2) := by decide +kernel
theorem dM_init_18 : decode prog_7_method_1_code 18 = .ok (.putfield 13, 3) := by decide +kernel
theorem dM_init_21 : decode prog_7_method_1_code 21 = .ok (.aload_n 0, 1) := by decide +kernel
theorem dM_init_22 : decode prog_7_method_1_code 22 = .ok (.bipush 6, 2) := by decide +kernel
theorem dM_init_24 : decode prog_7_method_1_code 24 = .ok (.newarray .int, 2) := by decide +kernel
theorem dM_init_26 : decode prog_7_method_1_code 26 = .ok (.putfield 16, 3) := by decide +kernel
theorem dM_init_29 : decode prog_7_method_1_code 29 = .ok (.aload_n 0, 1) := by decide +kernel
theorem dM_init_30 : decode prog_7_method_1_code 30 = .ok (.bipush 6, 2) := by decide +kernel
theorem dM_init_32 : decode prog_7_method_1_code 32 = .ok (.newarray .int, 2) := by decide +kernel
theorem dM_init_34 : decode prog_7_method_1_code 34 = .ok (.putfield 19, 3) := by decide +kernel
theorem dM_init_37 : decode prog_7_method_1_code 37 = .ok (.aload_n 0, 1) := by decide +kernel
theorem dM_init_38 : decode prog_7_method_1_code 38 = .ok (.bipush 6, 2) := by decide +kernel
theorem dM_init_40 : decode prog_7_method_1_code 40 = .ok (.newarray .int, 2) := by decide +kernel
theorem dM_init_42 : decode prog_7_method_1_code 42 = .ok (.putfield 22, 3) := by decide +kernel
theorem dM_init_45 : decode prog_7_method_1_code 45 = .ok (.aload_n 0, 1) := by decide +kernel
theorem dM_init_46 : decode prog_7_method_1_code 46 = .ok (.bipush 6, 2) := by decide +kernel
theorem dM_init_48 : decode prog_7_method_1_code 48 = .ok (.newarray .int, 2) := by decide +kernel
theorem dM_init_50 : decode prog_7_method_1_code 50 = .ok (.putfield 25, 3) := by decide +kernel
theorem dM_init_53 : decode prog_7_method_1_code 53 = .ok (.aload_n 0, 1) := by decide +kernel
theorem dM_init_54 : decode prog_7_method_1_code 54 = .ok (.bipush 6, 2) := by decide +kernel
theorem dM_init_56 : decode prog_7_method_1_code 56 = .ok (.newarray .int, 2) := by decide +kernel
theorem dM_init_58 : decode prog_7_method_1_code 58 = .ok (.putfield 28, 3) := by decide +kernel
theorem dM_init_61 : decode prog_7_method_1_code 61 = .ok (.aload_n 0, 1) := by decide +kernel
theorem dM_init_62 : decode prog_7_method_1_code 62 = .ok (.bipush 48, 2) := by decide +kernel
theorem dM_init_64 : decode prog_7_method_1_code 64 = .ok (.newarray .int, 2) := by decide +kernel
theorem dM_init_66 : decode prog_7_method_1_code 66 = .ok (.putfield 31, 3) := by decide +kernel
theorem dM_init_69 : decode prog_7_method_1_code 69 = .ok (.aload_n 0, 1) := by decide +kernel
theorem dM_init_70 : decode prog_7_method_1_code 70 = .ok (.bipush 6, 2) := by decide +kernel
theorem dM_init_72 : decode prog_7_method_1_code 72 = .ok (.newarray .int, 2) := by decide +kernel
theorem dM_init_74 : decode prog_7_method_1_code 74 = .ok (.putfield 34, 3) := by decide +kernel
theorem dM_init_77 : decode prog_7_method_1_code 77 = .ok (.aload_n 0, 1) := by decide +kernel
theorem dM_init_78 : decode prog_7_method_1_code 78 = .ok (.bipush 6, 2) := by decide +kernel
theorem dM_init_80 : decode prog_7_method_1_code 80 = .ok (.newarray .int, 2) := by decide +kernel
theorem dM_init_82 : decode prog_7_method_1_code 82 = .ok (.putfield 37, 3) := by decide +kernel
theorem dM_init_85 : decode prog_7_method_1_code 85 = .ok (.aload_n 0, 1) := by decide +kernel
theorem dM_init_86 : decode prog_7_method_1_code 86 = .ok (.bipush 6, 2) := by decide +kernel
theorem dM_init_88 : decode prog_7_method_1_code 88 = .ok (.newarray .int, 2) := by decide +kernel
theorem dM_init_90 : decode prog_7_method_1_code 90 = .ok (.putfield 40, 3) := by decide +kernel
theorem dM_init_93 : decode prog_7_method_1_code 93 = .ok (.aload_n 0, 1) := by decide +kernel
theorem dM_init_94 : decode prog_7_method_1_code 94 = .ok (.bipush 6, 2) := by decide +kernel
theorem dM_init_96 : decode prog_7_method_1_code 96 = .ok (.newarray .int, 2) := by decide +kernel
theorem dM_init_98 : decode prog_7_method_1_code 98 = .ok (.putfield 43, 3) := by decide +kernel
theorem dM_init_101 : decode prog_7_method_1_code 101 = .ok (.aload_n 0, 1) := by decide +kernel
theorem dM_init_102 : decode prog_7_method_1_code 102 = .ok (.bipush 6, 2) := by decide +kernel
theorem dM_init_104 : decode prog_7_method_1_code 104 = .ok (.newarray .boolean, 2) := by decide +kernel
theorem dM_init_106 : decode prog_7_method_1_code 106 = .ok (.putfield 46, 3) := by decide +kernel
theorem dM_init_109 : decode prog_7_method_1_code 109 = .ok (.aload_n 0, 1) := by decide +kernel
theorem dM_init_110 : decode prog_7_method_1_code 110 = .ok (.bipush 6, 2) := by decide +kernel
theorem dM_init_112 : decode prog_7_method_1_code 112 = .ok (.newarray .int, 2) := by decide +kernel
theorem dM_init_114 : decode prog_7_method_1_code 114 = .ok (.putfield 50, 3) := by decide +kernel
theorem dM_init_117 : decode prog_7_method_1_code 117 = .ok (.aload_n 0, 1) := by decide +kernel
theorem dM_init_118 : decode prog_7_method_1_code 118 = .ok (.bipush 6, 2) := by decide +kernel
theorem dM_init_120 : decode prog_7_method_1_code 120 = .ok (.newarray .boolean, 2) := by decide +kernel
theorem dM_init_122 : decode prog_7_method_1_code 122 = .ok (.putfield 53, 3) := by decide +kernel
theorem dM_init_125 : decode prog_7_method_1_code 125 = .ok (.aload_n 0, 1) := by decide +kernel
theorem dM_init_126 : decode prog_7_method_1_code 126 = .ok (.bipush 48, 2) := by decide +kernel
theorem dM_init_128 : decode prog_7_method_1_code 128 = .ok (.newarray .int, 2) := by decide +kernel
theorem dM_init_130 : decode prog_7_method_1_code 130 = .ok (.putfield 56, 3) := by decide +kernel
theorem dM_init_133 : decode prog_7_method_1_code 133 = .ok (.aload_n 0, 1) := by decide +kernel
theorem dM_init_134 : decode prog_7_method_1_code 134 = .ok (.bipush 48, 2) := by decide +kernel
theorem dM_init_136 : decode prog_7_method_1_code 136 = .ok (.newarray .int, 2) := by decide +kernel
theorem dM_init_138 : decode prog_7_method_1_code 138 = .ok (.putfield 59, 3) := by decide +kernel
theorem dM_init_141 : decode prog_7_method_1_code 141 = .ok (.aload_n 0, 1) := by decide +kernel
theorem dM_init_142 : decode prog_7_method_1_code 142 = .ok (.bipush 48, 2) := by decide +kernel
theorem dM_init_144 : decode prog_7_method_1_code 144 = .ok (.newarray .int, 2) := by decide +kernel
theorem dM_init_146 : decode prog_7_method_1_code 146 = .ok (.putfield 62, 3) := by decide +kernel
theorem dM_init_149 : decode prog_7_method_1_code 149 = .ok (.aload_n 0, 1) := by decide +kernel
theorem dM_init_150 : decode prog_7_method_1_code 150 = .ok (.bipush 48, 2) := by decide +kernel
theorem dM_init_152 : decode prog_7_method_1_code 152 = .ok (.newarray .int, 2) := by decide +kernel
theorem dM_init_154 : decode prog_7_method_1_code 154 = .ok (.putfield 65, 3) := by decide +kernel
theorem dM_init_157 : decode prog_7_method_1_code 157 = .ok (.aload_n 0, 1) := by decide +kernel
theorem dM_init_158 : decode prog_7_method_1_code 158 = .ok (.bipush 16, 2) := by decide +kernel
theorem dM_init_160 : decode prog_7_method_1_code 160 = .ok (.newarray .int, 2) := by decide +kernel
theorem dM_init_162 : decode prog_7_method_1_code 162 = .ok (.putfield 68, 3) := by decide +kernel
theorem dM_init_165 : decode prog_7_method_1_code 165 = .ok (.aload_n 0, 1) := by decide +kernel
theorem dM_init_166 : decode prog_7_method_1_code 166 = .ok (.iload_n 1, 1) := by decide +kernel
theorem dM_init_167 : decode prog_7_method_1_code 167 = .ok (.iconst 1, 1) := by decide +kernel
theorem dM_init_168 : decode prog_7_method_1_code 168 = .ok (.if_icmp .ge 7, 3) := by decide +kernel
theorem dM_init_171 : decode prog_7_method_1_code 171 = .ok (.iconst 1, 1) := by decide +kernel
theorem dM_init_172 : decode prog_7_method_1_code 172 = .ok (.goto 15, 3) := by decide +kernel
theorem dM_init_175 : decode prog_7_method_1_code 175 = .ok (.iload_n 1, 1) := by decide +kernel
theorem dM_init_176 : decode prog_7_method_1_code 176 = .ok (.bipush 8, 2) := by decide +kernel
theorem dM_init_178 : decode prog_7_method_1_code 178 = .ok (.if_icmp .le 8, 3) := by decide +kernel
theorem dM_init_181 : decode prog_7_method_1_code 181 = .ok (.bipush 8, 2) := by decide +kernel
theorem dM_init_183 : decode prog_7_method_1_code 183 = .ok (.goto 4, 3) := by decide +kernel
theorem dM_init_186 : decode prog_7_method_1_code 186 = .ok (.iload_n 1, 1) := by decide +kernel
theorem dM_init_187 : decode prog_7_method_1_code 187 = .ok (.putfield 71, 3) := by decide +kernel
theorem dM_init_190 : decode prog_7_method_1_code 190 = .ok (.return_, 1) := by decide +kernel
theorem dM_poke_0 : decode prog_7_method_15_code 0 = .ok (.iload_n 1, 1) := by decide +kernel
theorem dM_poke_1 : decode prog_7_method_15_code 1 = .ok (.ifCond .lt 9, 3) := by decide +kernel
theorem dM_poke_4 : decode prog_7_method_15_code 4 = .ok (.iload_n 1, 1) := by decide +kernel
theorem dM_poke_5 : decode prog_7_method_15_code 5 = .ok (.bipush 127, 2) := by decide +kernel
theorem dM_poke_7 : decode prog_7_method_15_code 7 = .ok (.if_icmp .le 5, 3) := by decide +kernel
theorem dM_poke_10 : decode prog_7_method_15_code 10 = .ok (.iconst 0, 1) := by decide +kernel
theorem dM_poke_11 : decode prog_7_method_15_code 11 = .ok (.ireturn, 1) := by decide +kernel
theorem dM_poke_12 : decode prog_7_method_15_code 12 = .ok (.aload_n 0, 1) := by decide +kernel
theorem dM_poke_13 : decode prog_7_method_15_code 13 = .ok (.getfield 7, 3) := by decide +kernel
theorem dM_poke_16 : decode prog_7_method_15_code 16 = .ok (.iload_n 1, 1) := by decide +kernel
theorem dM_poke_17 : decode prog_7_method_15_code 17 = .ok (.iload_n 2, 1) := by decide +kernel
theorem dM_poke_18 : decode prog_7_method_15_code 18 = .ok (.iastore, 1) := by decide +kernel
theorem dM_poke_19 : decode prog_7_method_15_code 19 = .ok (.iconst 1, 1) := by decide +kernel
theorem dM_poke_20 : decode prog_7_method_15_code 20 = .ok (.ireturn, 1) := by decide +kernel
theorem dM_peek_0 : decode prog_7_method_16_code 0 = .ok (.iload_n 1, 1) := by decide +kernel
theorem dM_peek_1 : decode prog_7_method_16_code 1 = .ok (.ifCond .lt 9, 3) := by decide +kernel
theorem dM_peek_4 : decode prog_7_method_16_code 4 = .ok (.iload_n 1, 1) := by decide +kernel
theorem dM_peek_5 : decode prog_7_method_16_code 5 = .ok (.bipush 127, 2) := by decide +kernel
theorem dM_peek_7 : decode prog_7_method_16_code 7 = .ok (.if_icmp .le 7, 3) := by decide +kernel
theorem dM_peek_10 : decode prog_7_method_16_code 10 = .ok (.iconst 0, 1) := by decide +kernel
theorem dM_peek_11 : decode prog_7_method_16_code 11 = .ok (.goto 9, 3) := by decide +kernel
theorem dM_peek_14 : decode prog_7_method_16_code 14 = .ok (.aload_n 0, 1) := by decide +kernel
theorem dM_peek_15 : decode prog_7_method_16_code 15 = .ok (.getfield 7, 3) := by decide +kernel
theorem dM_peek_18 : decode prog_7_method_16_code 18 = .ok (.iload_n 1, 1) := by decide +kernel
theorem dM_peek_19 : decode prog_7_method_16_code 19 = .ok (.iaload, 1) := by decide +kernel
theorem dM_peek_20 : decode prog_7_method_16_code 20 = .ok (.ireturn, 1) := by decide +kernel
theorem dM_spawn_0 : decode prog_7_method_17_code 0 = .ok (.iconst 0, 1) := by decide +kernel
theorem dM_spawn_1 : decode prog_7_method_17_code 1 = .ok (.istore 4, 2) := by decide +kernel
theorem dM_spawn_3 : decode prog_7_method_17_code 3 = .ok (.iload 4, 2) := by decide +kernel
theorem dM_spawn_5 : decode prog_7_method_17_code 5 = .ok (.bipush 6, 2) := by decide +kernel
theorem dM_spawn_7 : decode prog_7_method_17_code 7 = .ok (.if_icmp .ge 22, 3) := by decide +kernel
theorem dM_spawn_10 : decode prog_7_method_17_code 10 = .ok (.aload_n 0, 1) := by decide +kernel
theorem dM_spawn_11 : decode prog_7_method_17_code 11 = .ok (.getfield 13, 3) := by decide +kernel
theorem dM_spawn_14 : decode prog_7_method_17_code 14 = .ok (.iload 4, 2) := by decide +kernel
theorem dM_spawn_16 : decode prog_7_method_17_code 16 = .ok (.iaload, 1) := by decide +kernel
theorem dM_spawn_17 : decode prog_7_method_17_code 17 = .ok (.ifCond .eq 12, 3) := by decide +kernel
theorem dM_spawn_20 : decode prog_7_method_17_code 20 = .ok (.iload 4, 2) := by decide +kernel
theorem dM_spawn_22 : decode prog_7_method_17_code 22 = .ok (.iconst 1, 1) := by decide +kernel
theorem dM_spawn_23 : decode prog_7_method_17_code 23 = .ok (.iadd, 1) := by decide +kernel
theorem dM_spawn_24 : decode prog_7_method_17_code 24 = .ok (.istore 4, 2) := by decide +kernel
theorem dM_spawn_26 : decode prog_7_method_17_code 26 = .ok (.goto (-23), 3) := by decide +kernel
theorem dM_spawn_29 : decode prog_7_method_17_code 29 = .ok (.iload 4, 2) := by decide +kernel
theorem dM_spawn_31 : decode prog_7_method_17_code 31 = .ok (.bipush 6, 2) := by decide +kernel
theorem dM_spawn_33 : decode prog_7_method_17_code 33 = .ok (.if_icmp .eq 27, 3) := by decide +kernel
theorem dM_spawn_36 : decode prog_7_method_17_code 36 = .ok (.iload_n 2, 1) := by decide +kernel
theorem dM_spawn_37 : decode prog_7_method_17_code 37 = .ok (.ifCond .lt 23, 3) := by decide +kernel
theorem dM_spawn_40 : decode prog_7_method_17_code 40 = .ok (.iload_n 3, 1) := by decide +kernel
theorem dM_spawn_41 : decode prog_7_method_17_code 41 = .ok (.ifCond .lt 19, 3) := by decide +kernel
theorem dM_spawn_44 : decode prog_7_method_17_code 44 = .ok (.iload_n 2, 1) := by decide +kernel
theorem dM_spawn_45 : decode prog_7_method_17_code 45 = .ok (.sipush 128, 3) := by decide +kernel
theorem dM_spawn_48 : decode prog_7_method_17_code 48 = .ok (.if_icmp .gt 12, 3) := by decide +kernel
theorem dM_spawn_51 : decode prog_7_method_17_code 51 = .ok (.iload_n 3, 1) := by decide +kernel
theorem dM_spawn_52 : decode prog_7_method_17_code 52 = .ok (.sipush 128, 3) := by decide +kernel
theorem dM_spawn_55 : decode prog_7_method_17_code 55 = .ok (.iload_n 2, 1) := by decide +kernel
theorem dM_spawn_56 : decode prog_7_method_17_code 56 = .ok (.isub, 1) := by decide +kernel
theorem dM_spawn_57 : decode prog_7_method_17_code 57 = .ok (.if_icmp .le 5, 3) := by decide +kernel
theorem dM_spawn_60 : decode prog_7_method_17_code 60 = .ok (.iconst (-1), 1) := by decide +kernel
