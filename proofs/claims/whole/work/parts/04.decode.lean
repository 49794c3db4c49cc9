theorem dM_spawn_61 : decode prog_7_method_17_code 61 = .ok (.ireturn, 1) := by decide +kernel
theorem dM_spawn_62 : decode prog_7_method_17_code 62 = .ok (.aload_n 0, 1) := by decide +kernel
theorem dM_spawn_63 : decode prog_7_method_17_code 63 = .ok (.getfield 16, 3) := by decide +kernel
theorem dM_spawn_66 : decode prog_7_method_17_code 66 = .ok (.iload 4, 2) := by decide +kernel
theorem dM_spawn_68 : decode prog_7_method_17_code 68 = .ok (.iconst 0, 1) := by decide +kernel
theorem dM_spawn_69 : decode prog_7_method_17_code 69 = .ok (.iastore, 1) := by decide +kernel
theorem dM_spawn_70 : decode prog_7_method_17_code 70 = .ok (.aload_n 0, 1) := by decide +kernel
theorem dM_spawn_71 : decode prog_7_method_17_code 71 = .ok (.getfield 19, 3) := by decide +kernel
theorem dM_spawn_74 : decode prog_7_method_17_code 74 = .ok (.iload 4, 2) := by decide +kernel
theorem dM_spawn_76 : decode prog_7_method_17_code 76 = .ok (.iload_n 1, 1) := by decide +kernel
theorem dM_spawn_77 : decode prog_7_method_17_code 77 = .ok (.iastore, 1) := by decide +kernel
theorem dM_spawn_78 : decode prog_7_method_17_code 78 = .ok (.aload_n 0, 1) := by decide +kernel
theorem dM_spawn_79 : decode prog_7_method_17_code 79 = .ok (.getfield 22, 3) := by decide +kernel
theorem dM_spawn_82 : decode prog_7_method_17_code 82 = .ok (.iload 4, 2) := by decide +kernel
theorem dM_spawn_84 : decode prog_7_method_17_code 84 = .ok (.iload_n 2, 1) := by decide +kernel
theorem dM_spawn_85 : decode prog_7_method_17_code 85 = .ok (.iastore, 1) := by decide +kernel
theorem dM_spawn_86 : decode prog_7_method_17_code 86 = .ok (.aload_n 0, 1) := by decide +kernel
theorem dM_spawn_87 : decode prog_7_method_17_code 87 = .ok (.getfield 25, 3) := by decide +kernel
theorem dM_spawn_90 : decode prog_7_method_17_code 90 = .ok (.iload 4, 2) := by decide +kernel
theorem dM_spawn_92 : decode prog_7_method_17_code 92 = .ok (.iload_n 3, 1) := by decide +kernel
theorem dM_spawn_93 : decode prog_7_method_17_code 93 = .ok (.iastore, 1) := by decide +kernel
theorem dM_spawn_94 : decode prog_7_method_17_code 94 = .ok (.aload_n 0, 1) := by decide +kernel
theorem dM_spawn_95 : decode prog_7_method_17_code 95 = .ok (.getfield 28, 3) := by decide +kernel
theorem dM_spawn_98 : decode prog_7_method_17_code 98 = .ok (.iload 4, 2) := by decide +kernel
theorem dM_spawn_100 : decode prog_7_method_17_code 100 = .ok (.iconst (-1), 1) := by decide +kernel
theorem dM_spawn_101 : decode prog_7_method_17_code 101 = .ok (.iastore, 1) := by decide +kernel
theorem dM_spawn_102 : decode prog_7_method_17_code 102 = .ok (.bipush 8, 2) := by decide +kernel
theorem dM_spawn_104 : decode prog_7_method_17_code 104 = .ok (.iload 4, 2) := by decide +kernel
theorem dM_spawn_106 : decode prog_7_method_17_code 106 = .ok (.imul, 1) := by decide +kernel
theorem dM_spawn_107 : decode prog_7_method_17_code 107 = .ok (.istore 5, 2) := by decide +kernel
theorem dM_spawn_109 : decode prog_7_method_17_code 109 = .ok (.iload 5, 2) := by decide +kernel
theorem dM_spawn_111 : decode prog_7_method_17_code 111 = .ok (.bipush 8, 2) := by decide +kernel
theorem dM_spawn_113 : decode prog_7_method_17_code 113 = .ok (.iload 4, 2) := by decide +kernel
theorem dM_spawn_115 : decode prog_7_method_17_code 115 = .ok (.imul, 1) := by decide +kernel
theorem dM_spawn_116 : decode prog_7_method_17_code 116 = .ok (.bipush 8, 2) := by decide +kernel
theorem dM_spawn_118 : decode prog_7_method_17_code 118 = .ok (.iadd, 1) := by decide +kernel
theorem dM_spawn_119 : decode prog_7_method_17_code 119 = .ok (.if_icmp .ge 33, 3) := by decide +kernel
theorem dM_spawn_122 : decode prog_7_method_17_code 122 = .ok (.aload_n 0, 1) := by decide +kernel
theorem dM_spawn_123 : decode prog_7_method_17_code 123 = .ok (.getfield 31, 3) := by decide +kernel
theorem dM_spawn_126 : decode prog_7_method_17_code 126 = .ok (.iload 5, 2) := by decide +kernel
theorem dM_spawn_128 : decode prog_7_method_17_code 128 = .ok (.iconst 0, 1) := by decide +kernel
theorem dM_spawn_129 : decode prog_7_method_17_code 129 = .ok (.iastore, 1) := by decide +kernel
theorem dM_spawn_130 : decode prog_7_method_17_code 130 = .ok (.aload_n 0, 1) := by decide +kernel
theorem dM_spawn_131 : decode prog_7_method_17_code 131 = .ok (.getfield 56, 3) := by decide +kernel
theorem dM_spawn_134 : decode prog_7_method_17_code 134 = .ok (.iload 5, 2) := by decide +kernel
theorem dM_spawn_136 : decode prog_7_method_17_code 136 = .ok (.iconst 0, 1) := by decide +kernel
theorem dM_spawn_137 : decode prog_7_method_17_code 137 = .ok (.iastore, 1) := by decide +kernel
theorem dM_spawn_138 : decode prog_7_method_17_code 138 = .ok (.aload_n 0, 1) := by decide +kernel
theorem dM_spawn_139 : decode prog_7_method_17_code 139 = .ok (.getfield 65, 3) := by decide +kernel
theorem dM_spawn_142 : decode prog_7_method_17_code 142 = .ok (.iload 5, 2) := by decide +kernel
theorem dM_spawn_144 : decode prog_7_method_17_code 144 = .ok (.iconst (-1), 1) := by decide +kernel
theorem dM_spawn_145 : decode prog_7_method_17_code 145 = .ok (.iastore, 1) := by decide +kernel
theorem dM_spawn_146 : decode prog_7_method_17_code 146 = .ok (.iinc 5 1, 3) := by decide +kernel
theorem dM_spawn_149 : decode prog_7_method_17_code 149 = .ok (.goto (-40), 3) := by decide +kernel
theorem dM_spawn_152 : decode prog_7_method_17_code 152 = .ok (.aload_n 0, 1) := by decide +kernel
theorem dM_spawn_153 : decode prog_7_method_17_code 153 = .ok (.iload 4, 2) := by decide +kernel
theorem dM_spawn_155 : decode prog_7_method_17_code 155 = .ok (.invokevirtual 101, 3) := by decide +kernel
theorem dM_spawn_158 : decode prog_7_method_17_code 158 = .ok (.iload 4, 2) := by decide +kernel
theorem dM_spawn_160 : decode prog_7_method_17_code 160 = .ok (.ireturn, 1) := by decide +kernel
theorem dM_makeReady_0 : decode prog_7_method_6_code 0 = .ok (.aload_n 0, 1) := by decide +kernel
theorem dM_makeReady_1 : decode prog_7_method_6_code 1 = .ok (.getfield 13, 3) := by decide +kernel
theorem dM_makeReady_4 : decode prog_7_method_6_code 4 = .ok (.iload_n 1, 1) := by decide +kernel
theorem dM_makeReady_5 : decode prog_7_method_6_code 5 = .ok (.iconst 1, 1) := by decide +kernel
theorem dM_makeReady_6 : decode prog_7_method_6_code 6 = .ok (.iastore, 1) := by decide +kernel
theorem dM_makeReady_7 : decode prog_7_method_6_code 7 = .ok (.aload_n 0, 1) := by decide +kernel
theorem dM_makeReady_8 : decode prog_7_method_6_code 8 = .ok (.iload_n 1, 1) := by decide +kernel
theorem dM_makeReady_9 : decode prog_7_method_6_code 9 = .ok (.invokevirtual 82, 3) := by decide +kernel
theorem dM_makeReady_12 : decode prog_7_method_6_code 12 = .ok (.return_, 1) := by decide +kernel
theorem dM_draw_0 : decode prog_7_method_5_code 0 = .ok (.aload_n 0, 1) := by decide +kernel
theorem dM_draw_1 : decode prog_7_method_5_code 1 = .ok (.getfield 34, 3) := by decide +kernel
theorem dM_draw_4 : decode prog_7_method_5_code 4 = .ok (.iload_n 1, 1) := by decide +kernel
theorem dM_draw_5 : decode prog_7_method_5_code 5 = .ok (.aload_n 0, 1) := by decide +kernel
theorem dM_draw_6 : decode prog_7_method_5_code 6 = .ok (.getfield 79, 3) := by decide +kernel
theorem dM_draw_9 : decode prog_7_method_5_code 9 = .ok (.iastore, 1) := by decide +kernel
theorem dM_draw_10 : decode prog_7_method_5_code 10 = .ok (.aload_n 0, 1) := by decide +kernel
theorem dM_draw_11 : decode prog_7_method_5_code 11 = .ok (.aload_n 0, 1) := by decide +kernel
theorem dM_draw_12 : decode prog_7_method_5_code 12 = .ok (.getfield 79, 3) := by decide +kernel
theorem dM_draw_15 : decode prog_7_method_5_code 15 = .ok (.iconst 1, 1) := by decide +kernel
theorem dM_draw_16 : decode prog_7_method_5_code 16 = .ok (.iadd, 1) := by decide +kernel
theorem dM_draw_17 : decode prog_7_method_5_code 17 = .ok (.putfield 79, 3) := by decide +kernel
theorem dM_draw_20 : decode prog_7_method_5_code 20 = .ok (.return_, 1) := by decide +kernel
theorem dM_put_0 : decode prog_7_method_18_code 0 = .ok (.aload_n 0, 1) := by decide +kernel
theorem dM_put_1 : decode prog_7_method_18_code 1 = .ok (.iload_n 1, 1) := by decide +kernel
theorem dM_put_2 : decode prog_7_method_18_code 2 = .ok (.invokevirtual 104, 3) := by decide +kernel
theorem dM_put_5 : decode prog_7_method_18_code 5 = .ok (.ifCond .eq 10, 3) := by decide +kernel
theorem dM_put_8 : decode prog_7_method_18_code 8 = .ok (.iload_n 2, 1) := by decide +kernel
theorem dM_put_9 : decode prog_7_method_18_code 9 = .ok (.invokestatic 107, 3) := by decide +kernel
theorem dM_put_12 : decode prog_7_method_18_code 12 = .ok (.ifCond .ne 5, 3) := by decide +kernel
theorem dM_put_15 : decode prog_7_method_18_code 15 = .ok (.iconst 0, 1) := by decide +kernel
theorem dM_put_16 : decode prog_7_method_18_code 16 = .ok (.ireturn, 1) := by decide +kernel
theorem dM_put_17 : decode prog_7_method_18_code 17 = .ok (.aload_n 0, 1) := by decide +kernel
theorem dM_put_18 : decode prog_7_method_18_code 18 = .ok (.getfield 31, 3) := by decide +kernel
theorem dM_put_21 : decode prog_7_method_18_code 21 = .ok (.bipush 8, 2) := by decide +kernel
theorem dM_put_23 : decode prog_7_method_18_code 23 = .ok (.iload_n 1, 1) := by decide +kernel
theorem dM_put_24 : decode prog_7_method_18_code 24 = .ok (.imul, 1) := by decide +kernel
theorem dM_put_25 : decode prog_7_method_18_code 25 = .ok (.iload_n 2, 1) := by decide +kernel
theorem dM_put_26 : decode prog_7_method_18_code 26 = .ok (.iadd, 1) := by decide +kernel
theorem dM_put_27 : decode prog_7_method_18_code 27 = .ok (.iload_n 3, 1) := by decide +kernel
theorem dM_put_28 : decode prog_7_method_18_code 28 = .ok (.iastore, 1) := by decide +kernel
theorem dM_put_29 : decode prog_7_method_18_code 29 = .ok (.iconst 1, 1) := by decide +kernel
theorem dM_put_30 : decode prog_7_method_18_code 30 = .ok (.ireturn, 1) := by decide +kernel
theorem dM_isThere_0 : decode prog_7_method_4_code 0 = .ok (.iload_n 1, 1) := by decide +kernel
theorem dM_isThere_1 : decode prog_7_method_4_code 1 = .ok (.invokestatic 75, 3) := by decide +kernel
theorem dM_isThere_4 : decode prog_7_method_4_code 4 = .ok (.ifCond .eq 16, 3) := by decide +kernel
theorem dM_isThere_7 : decode prog_7_method_4_code 7 = .ok (.aload_n 0, 1) := by decide +kernel
theorem dM_isThere_8 : decode prog_7_method_4_code 8 = .ok (.getfield 13, 3) := by decide +kernel
theorem dM_isThere_11 : decode prog_7_method_4_code 11 = .ok (.iload_n 1, 1) := by decide +kernel
theorem dM_isThere_12 : decode prog_7_method_4_code 12 = .ok (.iaload, 1) := by decide +kernel
theorem dM_isThere_13 : decode prog_7_method_4_code 13 = .ok (.ifCond .eq 7, 3) := by decide +kernel
theorem dM_isThere_16 : decode prog_7_method_4_code 16 = .ok (.iconst 1, 1) := by decide +kernel
theorem dM_isThere_17 : decode prog_7_method_4_code 17 = .ok (.goto 4, 3) := by decide +kernel
theorem dM_isThere_20 : decode prog_7_method_4_code 20 = .ok (.iconst 0, 1) := by decide +kernel
theorem dM_isThere_21 : decode prog_7_method_4_code 21 = .ok (.ireturn, 1) := by decide +kernel
theorem dM_isThread_0 : decode prog_7_method_2_code 0 = .ok (.iload_n 0, 1) := by decide +kernel
theorem dM_isThread_1 : decode prog_7_method_2_code 1 = .ok (.ifCond .lt 13, 3) := by decide +kernel
theorem dM_isThread_4 : decode prog_7_method_2_code 4 = .ok (.iload_n 0, 1) := by decide +kernel
theorem dM_isThread_5 : decode prog_7_method_2_code 5 = .ok (.bipush 6, 2) := by decide +kernel
theorem dM_isThread_7 : decode prog_7_method_2_code 7 = .ok (.if_icmp .ge 7, 3) := by decide +kernel
theorem dM_isThread_10 : decode prog_7_method_2_code 10 = .ok (.iconst 1, 1) := by decide +kernel
theorem dM_isThread_11 : decode prog_7_method_2_code 11 = .ok (.goto 4, 3) := by decide +kernel
theorem dM_isThread_14 : decode prog_7_method_2_code 14 = .ok (.iconst 0, 1) := by decide +kernel
theorem dM_isThread_15 : decode prog_7_method_2_code 15 = .ok (.ireturn, 1) := by decide +kernel
theorem dM_isEight_0 : decode prog_7_method_3_code 0 = .ok (.iload_n 0, 1) := by decide +kernel
theorem dM_isEight_1 : decode prog_7_method_3_code 1 = .ok (.ifCond .lt 13, 3) := by decide +kernel
theorem dM_isEight_4 : decode prog_7_method_3_code 4 = .ok (.iload_n 0, 1) := by decide +kernel
theorem dM_isEight_5 : decode prog_7_method_3_code 5 = .ok (.bipush 8, 2) := by decide +kernel
theorem dM_isEight_7 : decode prog_7_method_3_code 7 = .ok (.if_icmp .ge 7, 3) := by decide +kernel
theorem dM_isEight_10 : decode prog_7_method_3_code 10 = .ok (.iconst 1, 1) := by decide +kernel
theorem dM_isEight_11 : decode prog_7_method_3_code 11 = .ok (.goto 4, 3) := by decide +kernel
theorem dM_isEight_14 : decode prog_7_method_3_code 14 = .ok (.iconst 0, 1) := by decide +kernel
theorem dM_isEight_15 : decode prog_7_method_3_code 15 = .ok (.ireturn, 1) := by decide +kernel
theorem dM_give_0 : decode prog_7_method_19_code 0 = .ok (.aload_n 0, 1) := by decide +kernel
theorem dM_give_1 : decode prog_7_method_19_code 1 = .ok (.iload_n 1, 1) := by decide +kernel
theorem dM_give_2 : decode prog_7_method_19_code 2 = .ok (.invokevirtual 104, 3) := by decide +kernel
theorem dM_give_5 : decode prog_7_method_19_code 5 = .ok (.ifCond .eq 63, 3) := by decide +kernel
theorem dM_give_8 : decode prog_7_method_19_code 8 = .ok (.iload_n 2, 1) := by decide +kernel
theorem dM_give_9 : decode prog_7_method_19_code 9 = .ok (.invokestatic 107, 3) := by decide +kernel
theorem dM_give_12 : decode prog_7_method_19_code 12 = .ok (.ifCond .eq 56, 3) := by decide +kernel
theorem dM_give_15 : decode prog_7_method_19_code 15 = .ok (.aload_n 0, 1) := by decide +kernel
theorem dM_give_16 : decode prog_7_method_19_code 16 = .ok (.getfield 56, 3) := by decide +kernel
theorem dM_give_19 : decode prog_7_method_19_code 19 = .ok (.bipush 8, 2) := by decide +kernel
theorem dM_give_21 : decode prog_7_method_19_code 21 = .ok (.iload_n 1, 1) := by decide +kernel
theorem dM_give_22 : decode prog_7_method_19_code 22 = .ok (.imul, 1) := by decide +kernel
theorem dM_give_23 : decode prog_7_method_19_code 23 = .ok (.iload_n 2, 1) := by decide +kernel
theorem dM_give_24 : decode prog_7_method_19_code 24 = .ok (.iadd, 1) := by decide +kernel
theorem dM_give_25 : decode prog_7_method_19_code 25 = .ok (.iaload, 1) := by decide +kernel
theorem dM_give_26 : decode prog_7_method_19_code 26 = .ok (.ifCond .ne 42, 3) := by decide +kernel
theorem dM_give_29 : decode prog_7_method_19_code 29 = .ok (.iload_n 3, 1) := by decide +kernel
theorem dM_give_30 : decode prog_7_method_19_code 30 = .ok (.iconst 1, 1) := by decide +kernel
theorem dM_give_31 : decode prog_7_method_19_code 31 = .ok (.if_icmp .lt 37, 3) := by decide +kernel
theorem dM_give_34 : decode prog_7_method_19_code 34 = .ok (.iload_n 3, 1) := by decide +kernel
theorem dM_give_35 : decode prog_7_method_19_code 35 = .ok (.iconst 2, 1) := by decide +kernel
theorem dM_give_36 : decode prog_7_method_19_code 36 = .ok (.if_icmp .gt 32, 3) := by decide +kernel
theorem dM_give_39 : decode prog_7_method_19_code 39 = .ok (.iload 4, 2) := by decide +kernel
theorem dM_give_41 : decode prog_7_method_19_code 41 = .ok (.ifCond .lt 27, 3) := by decide +kernel
theorem dM_give_44 : decode prog_7_method_19_code 44 = .ok (.iload 4, 2) := by decide +kernel
theorem dM_give_46 : decode prog_7_method_19_code 46 = .ok (.iconst 3, 1) := by decide +kernel
theorem dM_give_47 : decode prog_7_method_19_code 47 = .ok (.if_icmp .gt 21, 3) := by decide +kernel
theorem dM_give_50 : decode prog_7_method_19_code 50 = .ok (.iload_n 3, 1) := by decide +kernel
theorem dM_give_51 : decode prog_7_method_19_code 51 = .ok (.iconst 2, 1) := by decide +kernel
theorem dM_give_52 : decode prog_7_method_19_code 52 = .ok (.if_icmp .ne 8, 3) := by decide +kernel
theorem dM_give_55 : decode prog_7_method_19_code 55 = .ok (.iload 4, 2) := by decide +kernel
theorem dM_give_57 : decode prog_7_method_19_code 57 = .ok (.ifCond .ne 11, 3) := by decide +kernel
theorem dM_give_60 : decode prog_7_method_19_code 60 = .ok (.iload 5, 2) := by decide +kernel
theorem dM_give_62 : decode prog_7_method_19_code 62 = .ok (.invokestatic 107, 3) := by decide +kernel
theorem dM_give_65 : decode prog_7_method_19_code 65 = .ok (.ifCond .ne 5, 3) := by decide +kernel
theorem dM_give_68 : decode prog_7_method_19_code 68 = .ok (.iconst 0, 1) := by decide +kernel
theorem dM_give_69 : decode prog_7_method_19_code 69 = .ok (.ireturn, 1) := by decide +kernel
theorem dM_give_70 : decode prog_7_method_19_code 70 = .ok (.aload_n 0, 1) := by decide +kernel
theorem dM_give_71 : decode prog_7_method_19_code 71 = .ok (.getfield 56, 3) := by decide +kernel
theorem dM_give_74 : decode prog_7_method_19_code 74 = .ok (.bipush 8, 2) := by decide +kernel
theorem dM_give_76 : decode prog_7_method_19_code 76 = .ok (.iload_n 1, 1) := by decide +kernel
theorem dM_give_77 : decode prog_7_method_19_code 77 = .ok (.imul, 1) := by decide +kernel
theorem dM_give_78 : decode prog_7_method_19_code 78 = .ok (.iload_n 2, 1) := by decide +kernel
theorem dM_give_79 : decode prog_7_method_19_code 79 = .ok (.iadd, 1) := by decide +kernel
theorem dM_give_80 : decode prog_7_method_19_code 80 = .ok (.iload_n 3, 1) := by decide +kernel
theorem dM_give_81 : decode prog_7_method_19_code 81 = .ok (.iastore, 1) := by decide +kernel
theorem dM_give_82 : decode prog_7_method_19_code 82 = .ok (.aload_n 0, 1) := by decide +kernel
theorem dM_give_83 : decode prog_7_method_19_code 83 = .ok (.getfield 59, 3) := by decide +kernel
theorem dM_give_86 : decode prog_7_method_19_code 86 = .ok (.bipush 8, 2) := by decide +kernel
theorem dM_give_88 : decode prog_7_method_19_code 88 = .ok (.iload_n 1, 1) := by decide +kernel
theorem dM_give_89 : decode prog_7_method_19_code 89 = .ok (.imul, 1) := by decide +kernel
theorem dM_give_90 : decode prog_7_method_19_code 90 = .ok (.iload_n 2, 1) := by decide +kernel
theorem dM_give_91 : decode prog_7_method_19_code 91 = .ok (.iadd, 1) := by decide +kernel
theorem dM_give_92 : decode prog_7_method_19_code 92 = .ok (.iload 4, 2) := by decide +kernel
theorem dM_give_94 : decode prog_7_method_19_code 94 = .ok (.iastore, 1) := by decide +kernel
theorem dM_give_95 : decode prog_7_method_19_code 95 = .ok (.aload_n 0, 1) := by decide +kernel
theorem dM_give_96 : decode prog_7_method_19_code 96 = .ok (.getfield 62, 3) := by decide +kernel
theorem dM_give_99 : decode prog_7_method_19_code 99 = .ok (.bipush 8, 2) := by decide +kernel
theorem dM_give_101 : decode prog_7_method_19_code 101 = .ok (.iload_n 1, 1) := by decide +kernel
theorem dM_give_102 : decode prog_7_method_19_code 102 = .ok (.imul, 1) := by decide +kernel
theorem dM_give_103 : decode prog_7_method_19_code 103 = .ok (.iload_n 2, 1) := by decide +kernel
theorem dM_give_104 : decode prog_7_method_19_code 104 = .ok (.iadd, 1) := by decide +kernel
theorem dM_give_105 : decode prog_7_method_19_code 105 = .ok (.iload 5, 2) := by decide +kernel
theorem dM_give_107 : decode prog_7_method_19_code 107 = .ok (.iastore, 1) := by decide +kernel
theorem dM_give_108 : decode prog_7_method_19_code 108 = .ok (.aload_n 0, 1) := by decide +kernel
theorem dM_give_109 : decode prog_7_method_19_code 109 = .ok (.getfield 65, 3) := by decide +kernel
theorem dM_give_112 : decode prog_7_method_19_code 112 = .ok (.bipush 8, 2) := by decide +kernel
theorem dM_give_114 : decode prog_7_method_19_code 114 = .ok (.iload_n 1, 1) := by decide +kernel
theorem dM_give_115 : decode prog_7_method_19_code 115 = .ok (.imul, 1) := by decide +kernel
theorem dM_give_116 : decode prog_7_method_19_code 116 = .ok (.iload_n 2, 1) := by decide +kernel
theorem dM_give_117 : decode prog_7_method_19_code 117 = .ok (.iadd, 1) := by decide +kernel
theorem dM_give_118 : decode prog_7_method_19_code 118 = .ok (.iconst (-1), 1) := by decide +kernel
theorem dM_give_119 : decode prog_7_method_19_code 119 = .ok (.iastore, 1) := by decide +kernel
theorem dM_give_120 : decode prog_7_method_19_code 120 = .ok (.iconst 1, 1) := by decide +kernel
theorem dM_give_121 : decode prog_7_method_19_code 121 = .ok (.ireturn, 1) := by decide +kernel
theorem dM_reap_0 : decode prog_7_method_20_code 0 = .ok (.iload_n 1, 1) := by decide +kernel
theorem dM_reap_1 : decode prog_7_method_20_code 1 = .ok (.invokestatic 75, 3) := by decide +kernel
theorem dM_reap_4 : decode prog_7_method_20_code 4 = .ok (.ifCond .eq 24, 3) := by decide +kernel
theorem dM_reap_7 : decode prog_7_method_20_code 7 = .ok (.aload_n 0, 1) := by decide +kernel
theorem dM_reap_8 : decode prog_7_method_20_code 8 = .ok (.getfield 13, 3) := by decide +kernel
theorem dM_reap_11 : decode prog_7_method_20_code 11 = .ok (.iload_n 1, 1) := by decide +kernel
theorem dM_reap_12 : decode prog_7_method_20_code 12 = .ok (.iaload, 1) := by decide +kernel
theorem dM_reap_13 : decode prog_7_method_20_code 13 = .ok (.iconst 5, 1) := by decide +kernel
theorem dM_reap_14 : decode prog_7_method_20_code 14 = .ok (.if_icmp .eq 16, 3) := by decide +kernel
theorem dM_reap_17 : decode prog_7_method_20_code 17 = .ok (.aload_n 0, 1) := by decide +kernel
theorem dM_reap_18 : decode prog_7_method_20_code 18 = .ok (.getfield 13, 3) := by decide +kernel
theorem dM_reap_21 : decode prog_7_method_20_code 21 = .ok (.iload_n 1, 1) := by decide +kernel
theorem dM_reap_22 : decode prog_7_method_20_code 22 = .ok (.iaload, 1) := by decide +kernel
theorem dM_reap_23 : decode prog_7_method_20_code 23 = .ok (.bipush 6, 2) := by decide +kernel
theorem dM_reap_25 : decode prog_7_method_20_code 25 = .ok (.if_icmp .eq 5, 3) := by decide +kernel
theorem dM_reap_28 : decode prog_7_method_20_code 28 = .ok (.iconst 0, 1) := by decide +kernel
theorem dM_reap_29 : decode prog_7_method_20_code 29 = .ok (.ireturn, 1) := by decide +kernel
theorem dM_reap_30 : decode prog_7_method_20_code 30 = .ok (.iconst 0, 1) := by decide +kernel
theorem dM_reap_31 : decode prog_7_method_20_code 31 = .ok (.istore_n 2, 1) := by decide +kernel
theorem dM_reap_32 : decode prog_7_method_20_code 32 = .ok (.iload_n 2, 1) := by decide +kernel
theorem dM_reap_33 : decode prog_7_method_20_code 33 = .ok (.bipush 8, 2) := by decide +kernel
theorem dM_reap_35 : decode prog_7_method_20_code 35 = .ok (.if_icmp .ge 33, 3) := by decide +kernel
theorem dM_reap_38 : decode prog_7_method_20_code 38 = .ok (.aload_n 0, 1) := by decide +kernel
theorem dM_reap_39 : decode prog_7_method_20_code 39 = .ok (.getfield 56, 3) := by decide +kernel
theorem dM_reap_42 : decode prog_7_method_20_code 42 = .ok (.bipush 8, 2) := by decide +kernel
theorem dM_reap_44 : decode prog_7_method_20_code 44 = .ok (.iload_n 1, 1) := by decide +kernel
theorem dM_reap_45 : decode prog_7_method_20_code 45 = .ok (.imul, 1) := by decide +kernel
theorem dM_reap_46 : decode prog_7_method_20_code 46 = .ok (.iload_n 2, 1) := by decide +kernel
theorem dM_reap_47 : decode prog_7_method_20_code 47 = .ok (.iadd, 1) := by decide +kernel
theorem dM_reap_48 : decode prog_7_method_20_code 48 = .ok (.iaload, 1) := by decide +kernel
theorem dM_reap_49 : decode prog_7_method_20_code 49 = .ok (.ifCond .eq 13, 3) := by decide +kernel
theorem dM_reap_52 : decode prog_7_method_20_code 52 = .ok (.aload_n 0, 1) := by decide +kernel
theorem dM_reap_53 : decode prog_7_method_20_code 53 = .ok (.bipush 8, 2) := by decide +kernel
theorem dM_reap_55 : decode prog_7_method_20_code 55 = .ok (.iload_n 1, 1) := by decide +kernel
theorem dM_reap_56 : decode prog_7_method_20_code 56 = .ok (.imul, 1) := by decide +kernel
theorem dM_reap_57 : decode prog_7_method_20_code 57 = .ok (.iload_n 2, 1) := by decide +kernel
theorem dM_reap_58 : decode prog_7_method_20_code 58 = .ok (.iadd, 1) := by decide +kernel
theorem dM_reap_59 : decode prog_7_method_20_code 59 = .ok (.invokevirtual 110, 3) := by decide +kernel
theorem dM_reap_62 : decode prog_7_method_20_code 62 = .ok (.iinc 2 1, 3) := by decide +kernel
theorem dM_reap_65 : decode prog_7_method_20_code 65 = .ok (.goto (-33), 3) := by decide +kernel
theorem dM_reap_68 : decode prog_7_method_20_code 68 = .ok (.aload_n 0, 1) := by decide +kernel
theorem dM_reap_69 : decode prog_7_method_20_code 69 = .ok (.getfield 13, 3) := by decide +kernel
theorem dM_reap_72 : decode prog_7_method_20_code 72 = .ok (.iload_n 1, 1) := by decide +kernel
theorem dM_reap_73 : decode prog_7_method_20_code 73 = .ok (.iconst 0, 1) := by decide +kernel
theorem dM_reap_74 : decode prog_7_method_20_code 74 = .ok (.iastore, 1) := by decide +kernel
theorem dM_reap_75 : decode prog_7_method_20_code 75 = .ok (.aload_n 0, 1) := by decide +kernel
theorem dM_reap_76 : decode prog_7_method_20_code 76 = .ok (.getfield 28, 3) := by decide +kernel
theorem dM_reap_79 : decode prog_7_method_20_code 79 = .ok (.iload_n 1, 1) := by decide +kernel
theorem dM_reap_80 : decode prog_7_method_20_code 80 = .ok (.iconst (-1), 1) := by decide +kernel
theorem dM_reap_81 : decode prog_7_method_20_code 81 = .ok (.iastore, 1) := by decide +kernel
theorem dM_reap_82 : decode prog_7_method_20_code 82 = .ok (.iconst 1, 1) := by decide +kernel
theorem dM_reap_83 : decode prog_7_method_20_code 83 = .ok (.ireturn, 1) := by decide +kernel
theorem dM_remove_0 : decode prog_7_method_10_code 0 = .ok (.iconst 0, 1) := by decide +kernel
theorem dM_remove_1 : decode prog_7_method_10_code 1 = .ok (.istore_n 2, 1) := by decide +kernel
theorem dM_remove_2 : decode prog_7_method_10_code 2 = .ok (.iload_n 2, 1) := by decide +kernel
theorem dM_remove_3 : decode prog_7_method_10_code 3 = .ok (.bipush 48, 2) := by decide +kernel
theorem dM_remove_5 : decode prog_7_method_10_code 5 = .ok (.if_icmp .ge 49, 3) := by decide +kernel
theorem dM_remove_8 : decode prog_7_method_10_code 8 = .ok (.aload_n 0, 1) := by decide +kernel
theorem dM_remove_9 : decode prog_7_method_10_code 9 = .ok (.getfield 65, 3) := by decide +kernel
theorem dM_remove_12 : decode prog_7_method_10_code 12 = .ok (.iload_n 2, 1) := by decide +kernel
theorem dM_remove_13 : decode prog_7_method_10_code 13 = .ok (.aload_n 0, 1) := by decide +kernel
theorem dM_remove_14 : decode prog_7_method_10_code 14 = .ok (.getfield 56, 3) := by decide +kernel
theorem dM_remove_17 : decode prog_7_method_10_code 17 = .ok (.iload_n 2, 1) := by decide +kernel
theorem dM_remove_18 : decode prog_7_method_10_code 18 = .ok (.iaload, 1) := by decide +kernel
theorem dM_remove_19 : decode prog_7_method_10_code 19 = .ok (.ifCond .eq 22, 3) := by decide +kernel
theorem dM_remove_22 : decode prog_7_method_10_code 22 = .ok (.aload_n 0, 1) := by decide +kernel
theorem dM_remove_23 : decode prog_7_method_10_code 23 = .ok (.getfield 65, 3) := by decide +kernel
theorem dM_remove_26 : decode prog_7_method_10_code 26 = .ok (.iload_n 2, 1) := by decide +kernel
theorem dM_remove_27 : decode prog_7_method_10_code 27 = .ok (.iaload, 1) := by decide +kernel
theorem dM_remove_28 : decode prog_7_method_10_code 28 = .ok (.iload_n 1, 1) := by decide +kernel
theorem dM_remove_29 : decode prog_7_method_10_code 29 = .ok (.if_icmp .ne 12, 3) := by decide +kernel
theorem dM_remove_32 : decode prog_7_method_10_code 32 = .ok (.aload_n 0, 1) := by decide +kernel
theorem dM_remove_33 : decode prog_7_method_10_code 33 = .ok (.getfield 65, 3) := by decide +kernel
theorem dM_remove_36 : decode prog_7_method_10_code 36 = .ok (.iload_n 1, 1) := by decide +kernel
theorem dM_remove_37 : decode prog_7_method_10_code 37 = .ok (.iaload, 1) := by decide +kernel
theorem dM_remove_38 : decode prog_7_method_10_code 38 = .ok (.goto 9, 3) := by decide +kernel
theorem dM_remove_41 : decode prog_7_method_10_code 41 = .ok (.aload_n 0, 1) := by decide +kernel
theorem dM_remove_42 : decode prog_7_method_10_code 42 = .ok (.getfield 65, 3) := by decide +kernel
theorem dM_remove_45 : decode prog_7_method_10_code 45 = .ok (.iload_n 2, 1) := by decide +kernel
theorem dM_remove_46 : decode prog_7_method_10_code 46 = .ok (.iaload, 1) := by decide +kernel
theorem dM_remove_47 : decode prog_7_method_10_code 47 = .ok (.iastore, 1) := by decide +kernel
theorem dM_remove_48 : decode prog_7_method_10_code 48 = .ok (.iinc 2 1, 3) := by decide +kernel
theorem dM_remove_51 : decode prog_7_method_10_code 51 = .ok (.goto (-49), 3) := by decide +kernel
theorem dM_remove_54 : decode prog_7_method_10_code 54 = .ok (.aload_n 0, 1) := by decide +kernel
theorem dM_remove_55 : decode prog_7_method_10_code 55 = .ok (.getfield 56, 3) := by decide +kernel
theorem dM_remove_58 : decode prog_7_method_10_code 58 = .ok (.iload_n 1, 1) := by decide +kernel
theorem dM_remove_59 : decode prog_7_method_10_code 59 = .ok (.iconst 0, 1) := by decide +kernel
theorem dM_remove_60 : decode prog_7_method_10_code 60 = .ok (.iastore, 1) := by decide +kernel
theorem dM_remove_61 : decode prog_7_method_10_code 61 = .ok (.aload_n 0, 1) := by decide +kernel
theorem dM_remove_62 : decode prog_7_method_10_code 62 = .ok (.getfield 65, 3) := by decide +kernel
theorem dM_remove_65 : decode prog_7_method_10_code 65 = .ok (.iload_n 1, 1) := by decide +kernel
theorem dM_remove_66 : decode prog_7_method_10_code 66 = .ok (.iconst (-1), 1) := by decide +kernel
theorem dM_remove_67 : decode prog_7_method_10_code 67 = .ok (.iastore, 1) := by decide +kernel
theorem dM_remove_68 : decode prog_7_method_10_code 68 = .ok (.return_, 1) := by decide +kernel
theorem dM_step_0 : decode prog_7_method_36_code 0 = .ok (.iload_n 1, 1) := by decide +kernel
theorem dM_step_1 : decode prog_7_method_36_code 1 = .ok (.iconst 1, 1) := by decide +kernel
theorem dM_step_2 : decode prog_7_method_36_code 2 = .ok (.if_icmp .lt 9, 3) := by decide +kernel
theorem dM_step_5 : decode prog_7_method_36_code 5 = .ok (.iload_n 1, 1) := by decide +kernel
theorem dM_step_6 : decode prog_7_method_36_code 6 = .ok (.bipush 50, 2) := by decide +kernel
theorem dM_step_8 : decode prog_7_method_36_code 8 = .ok (.if_icmp .le 5, 3) := by decide +kernel
theorem dM_step_11 : decode prog_7_method_36_code 11 = .ok (.iconst (-1), 1) := by decide +kernel
theorem dM_step_12 : decode prog_7_method_36_code 12 = .ok (.ireturn, 1) := by decide +kernel
theorem dM_step_13 : decode prog_7_method_36_code 13 = .ok (.iconst 0, 1) := by decide +kernel
theorem dM_step_14 : decode prog_7_method_36_code 14 = .ok (.istore_n 2, 1) := by decide +kernel
theorem dM_step_15 : decode prog_7_method_36_code 15 = .ok (.aload_n 0, 1) := by decide +kernel
theorem dM_step_16 : decode prog_7_method_36_code 16 = .ok (.iconst (-1), 1) := by decide +kernel
theorem dM_step_17 : decode prog_7_method_36_code 17 = .ok (.iconst 0, 1) := by decide +kernel
theorem dM_step_18 : decode prog_7_method_36_code 18 = .ok (.invokevirtual 90, 3) := by decide +kernel
theorem dM_step_21 : decode prog_7_method_36_code 21 = .ok (.istore_n 3, 1) := by decide +kernel
theorem dM_step_22 : decode prog_7_method_36_code 22 = .ok (.iload_n 2, 1) := by decide +kernel
theorem dM_step_23 : decode prog_7_method_36_code 23 = .ok (.iload_n 1, 1) := by decide +kernel
theorem dM_step_24 : decode prog_7_method_36_code 24 = .ok (.if_icmp .ge 26, 3) := by decide +kernel
theorem dM_step_27 : decode prog_7_method_36_code 27 = .ok (.iload_n 3, 1) := by decide +kernel
theorem dM_step_28 : decode prog_7_method_36_code 28 = .ok (.ifCond .lt 22, 3) := by decide +kernel
theorem dM_step_31 : decode prog_7_method_36_code 31 = .ok (.aload_n 0, 1) := by decide +kernel
theorem dM_step_32 : decode prog_7_method_36_code 32 = .ok (.iload_n 3, 1) := by decide +kernel
theorem dM_step_33 : decode prog_7_method_36_code 33 = .ok (.invokevirtual 190, 3) := by decide +kernel
theorem dM_step_36 : decode prog_7_method_36_code 36 = .ok (.iload_n 2, 1) := by decide +kernel
theorem dM_step_37 : decode prog_7_method_36_code 37 = .ok (.iconst 1, 1) := by decide +kernel
theorem dM_step_38 : decode prog_7_method_36_code 38 = .ok (.iadd, 1) := by decide +kernel
theorem dM_step_39 : decode prog_7_method_36_code 39 = .ok (.istore_n 2, 1) := by decide +kernel
theorem dM_step_40 : decode prog_7_method_36_code 40 = .ok (.aload_n 0, 1) := by decide +kernel
theorem dM_step_41 : decode prog_7_method_36_code 41 = .ok (.iconst (-1), 1) := by decide +kernel
theorem dM_step_42 : decode prog_7_method_36_code 42 = .ok (.iconst 0, 1) := by decide +kernel
theorem dM_step_43 : decode prog_7_method_36_code 43 = .ok (.invokevirtual 90, 3) := by decide +kernel
theorem dM_step_46 : decode prog_7_method_36_code 46 = .ok (.istore_n 3, 1) := by decide +kernel
theorem dM_step_47 : decode prog_7_method_36_code 47 = .ok (.goto (-25), 3) := by decide +kernel
theorem dM_step_50 : decode prog_7_method_36_code 50 = .ok (.iload_n 2, 1) := by decide +kernel
theorem dM_step_51 : decode prog_7_method_36_code 51 = .ok (.ireturn, 1) := by decide +kernel
theorem dM_at_0 : decode prog_7_method_8_code 0 = .ok (.iconst (-1), 1) := by decide +kernel
theorem dM_at_1 : decode prog_7_method_8_code 1 = .ok (.istore_n 3, 1) := by decide +kernel
theorem dM_at_2 : decode prog_7_method_8_code 2 = .ok (.iconst 0, 1) := by decide +kernel
theorem dM_at_3 : decode prog_7_method_8_code 3 = .ok (.istore 4, 2) := by decide +kernel
theorem dM_at_5 : decode prog_7_method_8_code 5 = .ok (.iload 4, 2) := by decide +kernel
theorem dM_at_7 : decode prog_7_method_8_code 7 = .ok (.bipush 6, 2) := by decide +kernel
theorem dM_at_9 : decode prog_7_method_8_code 9 = .ok (.if_icmp .ge 89, 3) := by decide +kernel
theorem dM_at_12 : decode prog_7_method_8_code 12 = .ok (.iconst 0, 1) := by decide +kernel
theorem dM_at_13 : decode prog_7_method_8_code 13 = .ok (.istore 5, 2) := by decide +kernel
theorem dM_at_15 : decode prog_7_method_8_code 15 = .ok (.iconst 0, 1) := by decide +kernel
theorem dM_at_16 : decode prog_7_method_8_code 16 = .ok (.istore 6, 2) := by decide +kernel
theorem dM_at_18 : decode prog_7_method_8_code 18 = .ok (.iload 6, 2) := by decide +kernel
theorem dM_at_20 : decode prog_7_method_8_code 20 = .ok (.bipush 6, 2) := by decide +kernel
theorem dM_at_22 : decode prog_7_method_8_code 22 = .ok (.if_icmp .ge 47, 3) := by decide +kernel
theorem dM_at_25 : decode prog_7_method_8_code 25 = .ok (.aload_n 0, 1) := by decide +kernel
theorem dM_at_26 : decode prog_7_method_8_code 26 = .ok (.iload_n 1, 1) := by decide +kernel
theorem dM_at_27 : decode prog_7_method_8_code 27 = .ok (.iload 6, 2) := by decide +kernel
theorem dM_at_29 : decode prog_7_method_8_code 29 = .ok (.invokevirtual 86, 3) := by decide +kernel
theorem dM_at_32 : decode prog_7_method_8_code 32 = .ok (.ifCond .eq 27, 3) := by decide +kernel
theorem dM_at_35 : decode prog_7_method_8_code 35 = .ok (.aload_n 0, 1) := by decide +kernel
theorem dM_at_36 : decode prog_7_method_8_code 36 = .ok (.getfield 34, 3) := by decide +kernel
theorem dM_at_39 : decode prog_7_method_8_code 39 = .ok (.iload 6, 2) := by decide +kernel
theorem dM_at_41 : decode prog_7_method_8_code 41 = .ok (.iaload, 1) := by decide +kernel
theorem dM_at_42 : decode prog_7_method_8_code 42 = .ok (.aload_n 0, 1) := by decide +kernel
theorem dM_at_43 : decode prog_7_method_8_code 43 = .ok (.getfield 34, 3) := by decide +kernel
theorem dM_at_46 : decode prog_7_method_8_code 46 = .ok (.iload 4, 2) := by decide +kernel
theorem dM_at_48 : decode prog_7_method_8_code 48 = .ok (.iaload, 1) := by decide +kernel
theorem dM_at_49 : decode prog_7_method_8_code 49 = .ok (.if_icmp .ge 10, 3) := by decide +kernel
theorem dM_at_52 : decode prog_7_method_8_code 52 = .ok (.iload 5, 2) := by decide +kernel
theorem dM_at_54 : decode prog_7_method_8_code 54 = .ok (.iconst 1, 1) := by decide +kernel
theorem dM_at_55 : decode prog_7_method_8_code 55 = .ok (.iadd, 1) := by decide +kernel
theorem dM_at_56 : decode prog_7_method_8_code 56 = .ok (.goto 5, 3) := by decide +kernel
theorem dM_at_59 : decode prog_7_method_8_code 59 = .ok (.iload 5, 2) := by decide +kernel
theorem dM_at_61 : decode prog_7_method_8_code 61 = .ok (.istore 5, 2) := by decide +kernel
theorem dM_at_63 : decode prog_7_method_8_code 63 = .ok (.iinc 6 1, 3) := by decide +kernel
theorem dM_at_66 : decode prog_7_method_8_code 66 = .ok (.goto (-48), 3) := by decide +kernel
theorem dM_at_69 : decode prog_7_method_8_code 69 = .ok (.aload_n 0, 1) := by decide +kernel
theorem dM_at_70 : decode prog_7_method_8_code 70 = .ok (.iload_n 1, 1) := by decide +kernel
theorem dM_at_71 : decode prog_7_method_8_code 71 = .ok (.iload 4, 2) := by decide +kernel
theorem dM_at_73 : decode prog_7_method_8_code 73 = .ok (.invokevirtual 86, 3) := by decide +kernel
theorem dM_at_76 : decode prog_7_method_8_code 76 = .ok (.ifCond .eq 14, 3) := by decide +kernel
theorem dM_at_79 : decode prog_7_method_8_code 79 = .ok (.iload 5, 2) := by decide +kernel
theorem dM_at_81 : decode prog_7_method_8_code 81 = .ok (.iload_n 2, 1) := by decide +kernel
theorem dM_at_82 : decode prog_7_method_8_code 82 = .ok (.if_icmp .ne 8, 3) := by decide +kernel
theorem dM_at_85 : decode prog_7_method_8_code 85 = .ok (.iload 4, 2) := by decide +kernel
theorem dM_at_87 : decode prog_7_method_8_code 87 = .ok (.goto 4, 3) := by decide +kernel
theorem dM_at_90 : decode prog_7_method_8_code 90 = .ok (.iload_n 3, 1) := by decide +kernel
theorem dM_at_91 : decode prog_7_method_8_code 91 = .ok (.istore_n 3, 1) := by decide +kernel
theorem dM_at_92 : decode prog_7_method_8_code 92 = .ok (.iinc 4 1, 3) := by decide +kernel
theorem dM_at_95 : decode prog_7_method_8_code 95 = .ok (.goto (-90), 3) := by decide +kernel
theorem dM_at_98 : decode prog_7_method_8_code 98 = .ok (.iload_n 3, 1) := by decide +kernel
theorem dM_at_99 : decode prog_7_method_8_code 99 = .ok (.ireturn, 1) := by decide +kernel
theorem dM_isIn_0 : decode prog_7_method_7_code 0 = .ok (.iload_n 1, 1) := by decide +kernel
theorem dM_isIn_1 : decode prog_7_method_7_code 1 = .ok (.ifCond .ge 21, 3) := by decide +kernel
theorem dM_isIn_4 : decode prog_7_method_7_code 4 = .ok (.aload_n 0, 1) := by decide +kernel
theorem dM_isIn_5 : decode prog_7_method_7_code 5 = .ok (.getfield 13, 3) := by decide +kernel
theorem dM_isIn_8 : decode prog_7_method_7_code 8 = .ok (.iload_n 2, 1) := by decide +kernel
theorem dM_isIn_9 : decode prog_7_method_7_code 9 = .ok (.iaload, 1) := by decide +kernel
theorem dM_isIn_10 : decode prog_7_method_7_code 10 = .ok (.iconst 1, 1) := by decide +kernel
theorem dM_isIn_11 : decode prog_7_method_7_code 11 = .ok (.if_icmp .ne 7, 3) := by decide +kernel
theorem dM_isIn_14 : decode prog_7_method_7_code 14 = .ok (.iconst 1, 1) := by decide +kernel
theorem dM_isIn_15 : decode prog_7_method_7_code 15 = .ok (.goto 42, 3) := by decide +kernel
theorem dM_isIn_18 : decode prog_7_method_7_code 18 = .ok (.iconst 0, 1) := by decide +kernel
theorem dM_isIn_19 : decode prog_7_method_7_code 19 = .ok (.goto 38, 3) := by decide +kernel
theorem dM_isIn_22 : decode prog_7_method_7_code 22 = .ok (.aload_n 0, 1) := by decide +kernel
theorem dM_isIn_23 : decode prog_7_method_7_code 23 = .ok (.getfield 13, 3) := by decide +kernel
theorem dM_isIn_26 : decode prog_7_method_7_code 26 = .ok (.iload_n 2, 1) := by decide +kernel
theorem dM_isIn_27 : decode prog_7_method_7_code 27 = .ok (.iaload, 1) := by decide +kernel
theorem dM_isIn_28 : decode prog_7_method_7_code 28 = .ok (.iconst 2, 1) := by decide +kernel
theorem dM_isIn_29 : decode prog_7_method_7_code 29 = .ok (.if_icmp .eq 13, 3) := by decide +kernel
theorem dM_isIn_32 : decode prog_7_method_7_code 32 = .ok (.aload_n 0, 1) := by decide +kernel
theorem dM_isIn_33 : decode prog_7_method_7_code 33 = .ok (.getfield 13, 3) := by decide +kernel
theorem dM_isIn_36 : decode prog_7_method_7_code 36 = .ok (.iload_n 2, 1) := by decide +kernel
theorem dM_isIn_37 : decode prog_7_method_7_code 37 = .ok (.iaload, 1) := by decide +kernel
theorem dM_isIn_38 : decode prog_7_method_7_code 38 = .ok (.iconst 4, 1) := by decide +kernel
theorem dM_isIn_39 : decode prog_7_method_7_code 39 = .ok (.if_icmp .ne 17, 3) := by decide +kernel
theorem dM_isIn_42 : decode prog_7_method_7_code 42 = .ok (.aload_n 0, 1) := by decide +kernel
theorem dM_isIn_43 : decode prog_7_method_7_code 43 = .ok (.getfield 37, 3) := by decide +kernel
theorem dM_isIn_46 : decode prog_7_method_7_code 46 = .ok (.iload_n 2, 1) := by decide +kernel
theorem dM_isIn_47 : decode prog_7_method_7_code 47 = .ok (.iaload, 1) := by decide +kernel
theorem dM_isIn_48 : decode prog_7_method_7_code 48 = .ok (.iload_n 1, 1) := by decide +kernel
theorem dM_isIn_49 : decode prog_7_method_7_code 49 = .ok (.if_icmp .ne 7, 3) := by decide +kernel
theorem dM_isIn_52 : decode prog_7_method_7_code 52 = .ok (.iconst 1, 1) := by decide +kernel
theorem dM_isIn_53 : decode prog_7_method_7_code 53 = .ok (.goto 4, 3) := by decide +kernel
theorem dM_isIn_56 : decode prog_7_method_7_code 56 = .ok (.iconst 0, 1) := by decide +kernel
theorem dM_isIn_57 : decode prog_7_method_7_code 57 = .ok (.ireturn, 1) := by decide +kernel
theorem dM_oneStep_0 : decode prog_7_method_35_code 0 = .ok (.aload_n 0, 1) := by decide +kernel
theorem dM_oneStep_1 : decode prog_7_method_35_code 1 = .ok (.iload_n 1, 1) := by decide +kernel
theorem dM_oneStep_2 : decode prog_7_method_35_code 2 = .ok (.invokevirtual 187, 3) := by decide +kernel
theorem dM_oneStep_5 : decode prog_7_method_35_code 5 = .ok (.aload_n 0, 1) := by decide +kernel
theorem dM_oneStep_6 : decode prog_7_method_35_code 6 = .ok (.getfield 13, 3) := by decide +kernel
theorem dM_oneStep_9 : decode prog_7_method_35_code 9 = .ok (.iload_n 1, 1) := by decide +kernel
theorem dM_oneStep_10 : decode prog_7_method_35_code 10 = .ok (.iaload, 1) := by decide +kernel
theorem dM_oneStep_11 : decode prog_7_method_35_code 11 = .ok (.iconst 1, 1) := by decide +kernel
theorem dM_oneStep_12 : decode prog_7_method_35_code 12 = .ok (.if_icmp .eq 11, 3) := by decide +kernel
theorem dM_oneStep_15 : decode prog_7_method_35_code 15 = .ok (.aload_n 0, 1) := by decide +kernel
theorem dM_oneStep_16 : decode prog_7_method_35_code 16 = .ok (.iconst 0, 1) := by decide +kernel
theorem dM_oneStep_17 : decode prog_7_method_35_code 17 = .ok (.putfield 184, 3) := by decide +kernel
theorem dM_oneStep_20 : decode prog_7_method_35_code 20 = .ok (.goto 24, 3) := by decide +kernel
theorem dM_oneStep_23 : decode prog_7_method_35_code 23 = .ok (.aload_n 0, 1) := by decide +kernel
theorem dM_oneStep_24 : decode prog_7_method_35_code 24 = .ok (.getfield 184, 3) := by decide +kernel
theorem dM_oneStep_27 : decode prog_7_method_35_code 27 = .ok (.aload_n 0, 1) := by decide +kernel
theorem dM_oneStep_28 : decode prog_7_method_35_code 28 = .ok (.getfield 71, 3) := by decide +kernel
theorem dM_oneStep_31 : decode prog_7_method_35_code 31 = .ok (.if_icmp .lt 13, 3) := by decide +kernel
theorem dM_oneStep_34 : decode prog_7_method_35_code 34 = .ok (.aload_n 0, 1) := by decide +kernel
theorem dM_oneStep_35 : decode prog_7_method_35_code 35 = .ok (.iload_n 1, 1) := by decide +kernel
theorem dM_oneStep_36 : decode prog_7_method_35_code 36 = .ok (.invokevirtual 82, 3) := by decide +kernel
theorem dM_oneStep_39 : decode prog_7_method_35_code 39 = .ok (.aload_n 0, 1) := by decide +kernel
theorem dM_oneStep_40 : decode prog_7_method_35_code 40 = .ok (.iconst 0, 1) := by decide +kernel
theorem dM_oneStep_41 : decode prog_7_method_35_code 41 = .ok (.putfield 184, 3) := by decide +kernel
theorem dM_oneStep_44 : decode prog_7_method_35_code 44 = .ok (.return_, 1) := by decide +kernel
theorem dM_execute_0 : decode prog_7_method_34_code 0 = .ok (.aload_n 0, 1) := by decide +kernel
theorem dM_execute_1 : decode prog_7_method_34_code 1 = .ok (.getfield 19, 3) := by decide +kernel
theorem dM_execute_4 : decode prog_7_method_34_code 4 = .ok (.iload_n 1, 1) := by decide +kernel
theorem dM_execute_5 : decode prog_7_method_34_code 5 = .ok (.iaload, 1) := by decide +kernel
theorem dM_execute_6 : decode prog_7_method_34_code 6 = .ok (.istore_n 2, 1) := by decide +kernel
theorem dM_execute_7 : decode prog_7_method_34_code 7 = .ok (.iload_n 2, 1) := by decide +kernel
theorem dM_execute_8 : decode prog_7_method_34_code 8 = .ok (.ifCond .lt 13, 3) := by decide +kernel
theorem dM_execute_11 : decode prog_7_method_34_code 11 = .ok (.iload_n 2, 1) := by decide +kernel
theorem dM_execute_12 : decode prog_7_method_34_code 12 = .ok (.aload_n 0, 1) := by decide +kernel
theorem dM_execute_13 : decode prog_7_method_34_code 13 = .ok (.getfield 25, 3) := by decide +kernel
theorem dM_execute_16 : decode prog_7_method_34_code 16 = .ok (.iload_n 1, 1) := by decide +kernel
theorem dM_execute_17 : decode prog_7_method_34_code 17 = .ok (.iaload, 1) := by decide +kernel
theorem dM_execute_18 : decode prog_7_method_34_code 18 = .ok (.if_icmp .lt 10, 3) := by decide +kernel
theorem dM_execute_21 : decode prog_7_method_34_code 21 = .ok (.aload_n 0, 1) := by decide +kernel
theorem dM_execute_22 : decode prog_7_method_34_code 22 = .ok (.iload_n 1, 1) := by decide +kernel
theorem dM_execute_23 : decode prog_7_method_34_code 23 = .ok (.iconst 1, 1) := by decide +kernel
theorem dM_execute_24 : decode prog_7_method_34_code 24 = .ok (.invokevirtual 175, 3) := by decide +kernel
theorem dM_execute_27 : decode prog_7_method_34_code 27 = .ok (.return_, 1) := by decide +kernel
theorem dM_execute_28 : decode prog_7_method_34_code 28 = .ok (.aload_n 0, 1) := by decide +kernel
theorem dM_execute_29 : decode prog_7_method_34_code 29 = .ok (.getfield 7, 3) := by decide +kernel
theorem dM_execute_32 : decode prog_7_method_34_code 32 = .ok (.aload_n 0, 1) := by decide +kernel
theorem dM_execute_33 : decode prog_7_method_34_code 33 = .ok (.getfield 22, 3) := by decide +kernel
theorem dM_execute_36 : decode prog_7_method_34_code 36 = .ok (.iload_n 1, 1) := by decide +kernel
theorem dM_execute_37 : decode prog_7_method_34_code 37 = .ok (.iaload, 1) := by decide +kernel
theorem dM_execute_38 : decode prog_7_method_34_code 38 = .ok (.iload_n 2, 1) := by decide +kernel
theorem dM_execute_39 : decode prog_7_method_34_code 39 = .ok (.iadd, 1) := by decide +kernel
theorem dM_execute_40 : decode prog_7_method_34_code 40 = .ok (.iaload, 1) := by decide +kernel
theorem dM_execute_41 : decode prog_7_method_34_code 41 = .ok (.istore_n 3, 1) := by decide +kernel
theorem dM_execute_42 : decode prog_7_method_34_code 42 = .ok (.iload_n 3, 1) := by decide +kernel
theorem dM_execute_43 : decode prog_7_method_34_code 43 = .ok (.bipush 31, 2) := by decide +kernel
theorem dM_execute_45 : decode prog_7_method_34_code 45 = .ok (.iand, 1) := by decide +kernel
theorem dM_execute_46 : decode prog_7_method_34_code 46 = .ok (.istore 4, 2) := by decide +kernel
theorem dM_execute_48 : decode prog_7_method_34_code 48 = .ok (.aload_n 0, 1) := by decide +kernel
theorem dM_execute_49 : decode prog_7_method_34_code 49 = .ok (.iload_n 3, 1) := by decide +kernel
theorem dM_execute_50 : decode prog_7_method_34_code 50 = .ok (.iconst 5, 1) := by decide +kernel
theorem dM_execute_51 : decode prog_7_method_34_code 51 = .ok (.ishr, 1) := by decide +kernel
theorem dM_execute_52 : decode prog_7_method_34_code 52 = .ok (.bipush 7, 2) := by decide +kernel
theorem dM_execute_54 : decode prog_7_method_34_code 54 = .ok (.iand, 1) := by decide +kernel
theorem dM_execute_55 : decode prog_7_method_34_code 55 = .ok (.putfield 142, 3) := by decide +kernel
theorem dM_execute_58 : decode prog_7_method_34_code 58 = .ok (.aload_n 0, 1) := by decide +kernel
theorem dM_execute_59 : decode prog_7_method_34_code 59 = .ok (.iload_n 3, 1) := by decide +kernel
theorem dM_execute_60 : decode prog_7_method_34_code 60 = .ok (.bipush 8, 2) := by decide +kernel
theorem dM_execute_62 : decode prog_7_method_34_code 62 = .ok (.ishr, 1) := by decide +kernel
theorem dM_execute_63 : decode prog_7_method_34_code 63 = .ok (.bipush 7, 2) := by decide +kernel
theorem dM_execute_65 : decode prog_7_method_34_code 65 = .ok (.iand, 1) := by decide +kernel
theorem dM_execute_66 : decode prog_7_method_34_code 66 = .ok (.putfield 113, 3) := by decide +kernel
theorem dM_execute_69 : decode prog_7_method_34_code 69 = .ok (.aload_n 0, 1) := by decide +kernel
theorem dM_execute_70 : decode prog_7_method_34_code 70 = .ok (.iload_n 3, 1) := by decide +kernel
theorem dM_execute_71 : decode prog_7_method_34_code 71 = .ok (.bipush 11, 2) := by decide +kernel
theorem dM_execute_73 : decode prog_7_method_34_code 73 = .ok (.ishr, 1) := by decide +kernel
theorem dM_execute_74 : decode prog_7_method_34_code 74 = .ok (.bipush 7, 2) := by decide +kernel
theorem dM_execute_76 : decode prog_7_method_34_code 76 = .ok (.iand, 1) := by decide +kernel
theorem dM_execute_77 : decode prog_7_method_34_code 77 = .ok (.putfield 116, 3) := by decide +kernel
theorem dM_execute_80 : decode prog_7_method_34_code 80 = .ok (.aload_n 0, 1) := by decide +kernel
theorem dM_execute_81 : decode prog_7_method_34_code 81 = .ok (.iload_n 3, 1) := by decide +kernel
theorem dM_execute_82 : decode prog_7_method_34_code 82 = .ok (.bipush 14, 2) := by decide +kernel
theorem dM_execute_84 : decode prog_7_method_34_code 84 = .ok (.ishr, 1) := by decide +kernel
theorem dM_execute_85 : decode prog_7_method_34_code 85 = .ok (.putfield 119, 3) := by decide +kernel
theorem dM_execute_88 : decode prog_7_method_34_code 88 = .ok (.aload_n 0, 1) := by decide +kernel
theorem dM_execute_89 : decode prog_7_method_34_code 89 = .ok (.iload_n 1, 1) := by decide +kernel
theorem dM_execute_90 : decode prog_7_method_34_code 90 = .ok (.iload 4, 2) := by decide +kernel
theorem dM_execute_92 : decode prog_7_method_34_code 92 = .ok (.invokevirtual 178, 3) := by decide +kernel
theorem dM_execute_95 : decode prog_7_method_34_code 95 = .ok (.istore 5, 2) := by decide +kernel
theorem dM_execute_97 : decode prog_7_method_34_code 97 = .ok (.iload 5, 2) := by decide +kernel
theorem dM_execute_99 : decode prog_7_method_34_code 99 = .ok (.ifCond .le 11, 3) := by decide +kernel
theorem dM_execute_102 : decode prog_7_method_34_code 102 = .ok (.aload_n 0, 1) := by decide +kernel
theorem dM_execute_103 : decode prog_7_method_34_code 103 = .ok (.iload_n 1, 1) := by decide +kernel
theorem dM_execute_104 : decode prog_7_method_34_code 104 = .ok (.iload 5, 2) := by decide +kernel
theorem dM_execute_106 : decode prog_7_method_34_code 106 = .ok (.invokevirtual 175, 3) := by decide +kernel
theorem dM_execute_109 : decode prog_7_method_34_code 109 = .ok (.return_, 1) := by decide +kernel
theorem dM_execute_110 : decode prog_7_method_34_code 110 = .ok (.aload_n 0, 1) := by decide +kernel
theorem dM_execute_111 : decode prog_7_method_34_code 111 = .ok (.iload_n 2, 1) := by decide +kernel
theorem dM_execute_112 : decode prog_7_method_34_code 112 = .ok (.iconst 1, 1) := by decide +kernel
theorem dM_execute_113 : decode prog_7_method_34_code 113 = .ok (.iadd, 1) := by decide +kernel
theorem dM_execute_114 : decode prog_7_method_34_code 114 = .ok (.putfield 149, 3) := by decide +kernel
theorem dM_execute_117 : decode prog_7_method_34_code 117 = .ok (.aload_n 0, 1) := by decide +kernel
theorem dM_execute_118 : decode prog_7_method_34_code 118 = .ok (.iload_n 1, 1) := by decide +kernel
theorem dM_execute_119 : decode prog_7_method_34_code 119 = .ok (.iload 4, 2) := by decide +kernel
theorem dM_execute_121 : decode prog_7_method_34_code 121 = .ok (.invokevirtual 181, 3) := by decide +kernel
theorem dM_execute_124 : decode prog_7_method_34_code 124 = .ok (.aload_n 0, 1) := by decide +kernel
theorem dM_execute_125 : decode prog_7_method_34_code 125 = .ok (.getfield 19, 3) := by decide +kernel
theorem dM_execute_128 : decode prog_7_method_34_code 128 = .ok (.iload_n 1, 1) := by decide +kernel
theorem dM_execute_129 : decode prog_7_method_34_code 129 = .ok (.aload_n 0, 1) := by decide +kernel
theorem dM_execute_130 : decode prog_7_method_34_code 130 = .ok (.getfield 149, 3) := by decide +kernel
theorem dM_execute_133 : decode prog_7_method_34_code 133 = .ok (.iastore, 1) := by decide +kernel
theorem dM_execute_134 : decode prog_7_method_34_code 134 = .ok (.aload_n 0, 1) := by decide +kernel
theorem dM_execute_135 : decode prog_7_method_34_code 135 = .ok (.iload 4, 2) := by decide +kernel
theorem dM_execute_137 : decode prog_7_method_34_code 137 = .ok (.bipush 13, 2) := by decide +kernel
theorem dM_execute_139 : decode prog_7_method_34_code 139 = .ok (.if_icmp .ne 10, 3) := by decide +kernel
theorem dM_execute_142 : decode prog_7_method_34_code 142 = .ok (.aload_n 0, 1) := by decide +kernel
theorem dM_execute_143 : decode prog_7_method_34_code 143 = .ok (.getfield 71, 3) := by decide +kernel
theorem dM_execute_146 : decode prog_7_method_34_code 146 = .ok (.goto 9, 3) := by decide +kernel
theorem dM_execute_149 : decode prog_7_method_34_code 149 = .ok (.aload_n 0, 1) := by decide +kernel
theorem dM_execute_150 : decode prog_7_method_34_code 150 = .ok (.getfield 184, 3) := by decide +kernel
theorem dM_execute_153 : decode prog_7_method_34_code 153 = .ok (.iconst 1, 1) := by decide +kernel
theorem dM_execute_154 : decode prog_7_method_34_code 154 = .ok (.iadd, 1) := by decide +kernel
theorem dM_execute_155 : decode prog_7_method_34_code 155 = .ok (.putfield 184, 3) := by decide +kernel
theorem dM_execute_158 : decode prog_7_method_34_code 158 = .ok (.return_, 1) := by decide +kernel
theorem dM_fail_0 : decode prog_7_method_33_code 0 = .ok (.aload_n 0, 1) := by decide +kernel
theorem dM_fail_1 : decode prog_7_method_33_code 1 = .ok (.getfield 13, 3) := by decide +kernel
theorem dM_fail_4 : decode prog_7_method_33_code 4 = .ok (.iload_n 1, 1) := by decide +kernel
theorem dM_fail_5 : decode prog_7_method_33_code 5 = .ok (.iconst 5, 1) := by decide +kernel
theorem dM_fail_6 : decode prog_7_method_33_code 6 = .ok (.iastore, 1) := by decide +kernel
theorem dM_fail_7 : decode prog_7_method_33_code 7 = .ok (.aload_n 0, 1) := by decide +kernel
theorem dM_fail_8 : decode prog_7_method_33_code 8 = .ok (.getfield 16, 3) := by decide +kernel
theorem dM_fail_11 : decode prog_7_method_33_code 11 = .ok (.iload_n 1, 1) := by decide +kernel
theorem dM_fail_12 : decode prog_7_method_33_code 12 = .ok (.iload_n 2, 1) := by decide +kernel
theorem dM_fail_13 : decode prog_7_method_33_code 13 = .ok (.iastore, 1) := by decide +kernel
theorem dM_fail_14 : decode prog_7_method_33_code 14 = .ok (.return_, 1) := by decide +kernel
theorem dM_faultOf_0 : decode prog_7_method_29_code 0 = .ok (.iload_n 2, 1) := by decide +kernel
theorem dM_faultOf_1 : decode prog_7_method_29_code 1 = .ok (.bipush 22, 2) := by decide +kernel
theorem dM_faultOf_3 : decode prog_7_method_29_code 3 = .ok (.if_icmp .le 5, 3) := by decide +kernel
theorem dM_faultOf_6 : decode prog_7_method_29_code 6 = .ok (.iconst 3, 1) := by decide +kernel
theorem dM_faultOf_7 : decode prog_7_method_29_code 7 = .ok (.ireturn, 1) := by decide +kernel
theorem dM_faultOf_8 : decode prog_7_method_29_code 8 = .ok (.iload_n 2, 1) := by decide +kernel
theorem dM_faultOf_9 : decode prog_7_method_29_code 9 = .ok (.bipush 8, 2) := by decide +kernel
theorem dM_faultOf_11 : decode prog_7_method_29_code 11 = .ok (.if_icmp .eq 9, 3) := by decide +kernel
theorem dM_faultOf_14 : decode prog_7_method_29_code 14 = .ok (.iload_n 2, 1) := by decide +kernel
theorem dM_faultOf_15 : decode prog_7_method_29_code 15 = .ok (.bipush 9, 2) := by decide +kernel
theorem dM_faultOf_17 : decode prog_7_method_29_code 17 = .ok (.if_icmp .ne 49, 3) := by decide +kernel
theorem dM_faultOf_20 : decode prog_7_method_29_code 20 = .ok (.aload_n 0, 1) := by decide +kernel
theorem dM_faultOf_21 : decode prog_7_method_29_code 21 = .ok (.getfield 31, 3) := by decide +kernel
theorem dM_faultOf_24 : decode prog_7_method_29_code 24 = .ok (.bipush 8, 2) := by decide +kernel
theorem dM_faultOf_26 : decode prog_7_method_29_code 26 = .ok (.iload_n 1, 1) := by decide +kernel
theorem dM_faultOf_27 : decode prog_7_method_29_code 27 = .ok (.imul, 1) := by decide +kernel
theorem dM_faultOf_28 : decode prog_7_method_29_code 28 = .ok (.aload_n 0, 1) := by decide +kernel
theorem dM_faultOf_29 : decode prog_7_method_29_code 29 = .ok (.getfield 113, 3) := by decide +kernel
theorem dM_faultOf_32 : decode prog_7_method_29_code 32 = .ok (.iadd, 1) := by decide +kernel
theorem dM_faultOf_33 : decode prog_7_method_29_code 33 = .ok (.iaload, 1) := by decide +kernel
theorem dM_faultOf_34 : decode prog_7_method_29_code 34 = .ok (.i2l, 1) := by decide +kernel
theorem dM_faultOf_35 : decode prog_7_method_29_code 35 = .ok (.aload_n 0, 1) := by decide +kernel
theorem dM_faultOf_36 : decode prog_7_method_29_code 36 = .ok (.getfield 119, 3) := by decide +kernel
theorem dM_faultOf_39 : decode prog_7_method_29_code 39 = .ok (.i2l, 1) := by decide +kernel
theorem dM_faultOf_40 : decode prog_7_method_29_code 40 = .ok (.ladd, 1) := by decide +kernel
theorem dM_faultOf_41 : decode prog_7_method_29_code 41 = .ok (.lstore_n 3, 1) := by decide +kernel
theorem dM_faultOf_42 : decode prog_7_method_29_code 42 = .ok (.lload_n 3, 1) := by decide +kernel
theorem dM_faultOf_43 : decode prog_7_method_29_code 43 = .ok (.lconst 0, 1) := by decide +kernel
theorem dM_faultOf_44 : decode prog_7_method_29_code 44 = .ok (.lcmp, 1) := by decide +kernel
theorem dM_faultOf_45 : decode prog_7_method_29_code 45 = .ok (.ifCond .lt 15, 3) := by decide +kernel
theorem dM_faultOf_48 : decode prog_7_method_29_code 48 = .ok (.lload_n 3, 1) := by decide +kernel
theorem dM_faultOf_49 : decode prog_7_method_29_code 49 = .ok (.aload_n 0, 1) := by decide +kernel
theorem dM_faultOf_50 : decode prog_7_method_29_code 50 = .ok (.getfield 25, 3) := by decide +kernel
theorem dM_faultOf_53 : decode prog_7_method_29_code 53 = .ok (.iload_n 1, 1) := by decide +kernel
theorem dM_faultOf_54 : decode prog_7_method_29_code 54 = .ok (.iaload, 1) := by decide +kernel
theorem dM_faultOf_55 : decode prog_7_method_29_code 55 = .ok (.i2l, 1) := by decide +kernel
theorem dM_faultOf_56 : decode prog_7_method_29_code 56 = .ok (.lcmp, 1) := by decide +kernel
theorem dM_faultOf_57 : decode prog_7_method_29_code 57 = .ok (.ifCond .lt 7, 3) := by decide +kernel
theorem dM_faultOf_60 : decode prog_7_method_29_code 60 = .ok (.iconst 2, 1) := by decide +kernel
theorem dM_faultOf_61 : decode prog_7_method_29_code 61 = .ok (.goto 4, 3) := by decide +kernel
theorem dM_faultOf_64 : decode prog_7_method_29_code 64 = .ok (.iconst 0, 1) := by decide +kernel
theorem dM_faultOf_65 : decode prog_7_method_29_code 65 = .ok (.ireturn, 1) := by decide +kernel
theorem dM_faultOf_66 : decode prog_7_method_29_code 66 = .ok (.iload_n 2, 1) := by decide +kernel
theorem dM_faultOf_67 : decode prog_7_method_29_code 67 = .ok (.bipush 14, 2) := by decide +kernel
theorem dM_faultOf_69 : decode prog_7_method_29_code 69 = .ok (.if_icmp .ne 13, 3) := by decide +kernel
theorem dM_faultOf_72 : decode prog_7_method_29_code 72 = .ok (.aload_n 0, 1) := by decide +kernel
theorem dM_faultOf_73 : decode prog_7_method_29_code 73 = .ok (.iload_n 1, 1) := by decide +kernel
theorem dM_faultOf_74 : decode prog_7_method_29_code 74 = .ok (.iconst 2, 1) := by decide +kernel
theorem dM_faultOf_75 : decode prog_7_method_29_code 75 = .ok (.iconst 1, 1) := by decide +kernel
theorem dM_faultOf_76 : decode prog_7_method_29_code 76 = .ok (.invokevirtual 145, 3) := by decide +kernel
theorem dM_faultOf_79 : decode prog_7_method_29_code 79 = .ok (.ifCond .ne 41, 3) := by decide +kernel
theorem dM_faultOf_82 : decode prog_7_method_29_code 82 = .ok (.iload_n 2, 1) := by decide +kernel
theorem dM_faultOf_83 : decode prog_7_method_29_code 83 = .ok (.bipush 17, 2) := by decide +kernel
theorem dM_faultOf_85 : decode prog_7_method_29_code 85 = .ok (.if_icmp .ne 13, 3) := by decide +kernel
theorem dM_faultOf_88 : decode prog_7_method_29_code 88 = .ok (.aload_n 0, 1) := by decide +kernel
theorem dM_faultOf_89 : decode prog_7_method_29_code 89 = .ok (.iload_n 1, 1) := by decide +kernel
theorem dM_faultOf_90 : decode prog_7_method_29_code 90 = .ok (.iconst 1, 1) := by decide +kernel
theorem dM_faultOf_91 : decode prog_7_method_29_code 91 = .ok (.iconst 2, 1) := by decide +kernel
theorem dM_faultOf_92 : decode prog_7_method_29_code 92 = .ok (.invokevirtual 145, 3) := by decide +kernel
theorem dM_faultOf_95 : decode prog_7_method_29_code 95 = .ok (.ifCond .ne 25, 3) := by decide +kernel
theorem dM_faultOf_98 : decode prog_7_method_29_code 98 = .ok (.iload_n 2, 1) := by decide +kernel
theorem dM_faultOf_99 : decode prog_7_method_29_code 99 = .ok (.bipush 19, 2) := by decide +kernel
theorem dM_faultOf_101 : decode prog_7_method_29_code 101 = .ok (.if_icmp .lt 23, 3) := by decide +kernel
theorem dM_faultOf_104 : decode prog_7_method_29_code 104 = .ok (.iload_n 2, 1) := by decide +kernel
theorem dM_faultOf_105 : decode prog_7_method_29_code 105 = .ok (.bipush 21, 2) := by decide +kernel
theorem dM_faultOf_107 : decode prog_7_method_29_code 107 = .ok (.if_icmp .gt 17, 3) := by decide +kernel
theorem dM_faultOf_110 : decode prog_7_method_29_code 110 = .ok (.aload_n 0, 1) := by decide +kernel
theorem dM_faultOf_111 : decode prog_7_method_29_code 111 = .ok (.iload_n 1, 1) := by decide +kernel
theorem dM_faultOf_112 : decode prog_7_method_29_code 112 = .ok (.iconst 0, 1) := by decide +kernel
theorem dM_faultOf_113 : decode prog_7_method_29_code 113 = .ok (.iconst 0, 1) := by decide +kernel
theorem dM_faultOf_114 : decode prog_7_method_29_code 114 = .ok (.invokevirtual 145, 3) := by decide +kernel
theorem dM_faultOf_117 : decode prog_7_method_29_code 117 = .ok (.ifCond .eq 7, 3) := by decide +kernel
theorem dM_faultOf_120 : decode prog_7_method_29_code 120 = .ok (.iconst 1, 1) := by decide +kernel
theorem dM_faultOf_121 : decode prog_7_method_29_code 121 = .ok (.goto 4, 3) := by decide +kernel
theorem dM_faultOf_124 : decode prog_7_method_29_code 124 = .ok (.iconst 0, 1) := by decide +kernel
theorem dM_faultOf_125 : decode prog_7_method_29_code 125 = .ok (.istore_n 3, 1) := by decide +kernel
theorem dM_faultOf_126 : decode prog_7_method_29_code 126 = .ok (.aload_n 0, 1) := by decide +kernel
theorem dM_faultOf_127 : decode prog_7_method_29_code 127 = .ok (.getfield 119, 3) := by decide +kernel
theorem dM_faultOf_130 : decode prog_7_method_29_code 130 = .ok (.iconst 1, 1) := by decide +kernel
theorem dM_faultOf_131 : decode prog_7_method_29_code 131 = .ok (.iand, 1) := by decide +kernel
theorem dM_faultOf_132 : decode prog_7_method_29_code 132 = .ok (.iconst 1, 1) := by decide +kernel
theorem dM_faultOf_133 : decode prog_7_method_29_code 133 = .ok (.if_icmp .ne 7, 3) := by decide +kernel
theorem dM_faultOf_136 : decode prog_7_method_29_code 136 = .ok (.iconst 5, 1) := by decide +kernel
theorem dM_faultOf_137 : decode prog_7_method_29_code 137 = .ok (.goto 4, 3) := by decide +kernel
theorem dM_faultOf_140 : decode prog_7_method_29_code 140 = .ok (.iconst 1, 1) := by decide +kernel
theorem dM_faultOf_141 : decode prog_7_method_29_code 141 = .ok (.istore 4, 2) := by decide +kernel
theorem dM_faultOf_143 : decode prog_7_method_29_code 143 = .ok (.iload_n 3, 1) := by decide +kernel
theorem dM_faultOf_144 : decode prog_7_method_29_code 144 = .ok (.ifCond .ne 26, 3) := by decide +kernel
theorem dM_faultOf_147 : decode prog_7_method_29_code 147 = .ok (.iload_n 2, 1) := by decide +kernel
theorem dM_faultOf_148 : decode prog_7_method_29_code 148 = .ok (.bipush 15, 2) := by decide +kernel
theorem dM_faultOf_150 : decode prog_7_method_29_code 150 = .ok (.if_icmp .eq 9, 3) := by decide +kernel
theorem dM_faultOf_153 : decode prog_7_method_29_code 153 = .ok (.iload_n 2, 1) := by decide +kernel
theorem dM_faultOf_154 : decode prog_7_method_29_code 154 = .ok (.bipush 16, 2) := by decide +kernel
theorem dM_faultOf_156 : decode prog_7_method_29_code 156 = .ok (.if_icmp .ne 18, 3) := by decide +kernel
theorem dM_faultOf_159 : decode prog_7_method_29_code 159 = .ok (.aload_n 0, 1) := by decide +kernel
theorem dM_faultOf_160 : decode prog_7_method_29_code 160 = .ok (.iload_n 1, 1) := by decide +kernel
theorem dM_faultOf_161 : decode prog_7_method_29_code 161 = .ok (.iconst 1, 1) := by decide +kernel
theorem dM_faultOf_162 : decode prog_7_method_29_code 162 = .ok (.iload 4, 2) := by decide +kernel
theorem dM_faultOf_164 : decode prog_7_method_29_code 164 = .ok (.invokevirtual 145, 3) := by decide +kernel
theorem dM_faultOf_167 : decode prog_7_method_29_code 167 = .ok (.ifCond .eq 7, 3) := by decide +kernel
theorem dM_faultOf_170 : decode prog_7_method_29_code 170 = .ok (.iconst 1, 1) := by decide +kernel
theorem dM_faultOf_171 : decode prog_7_method_29_code 171 = .ok (.goto 4, 3) := by decide +kernel
theorem dM_faultOf_174 : decode prog_7_method_29_code 174 = .ok (.iconst 0, 1) := by decide +kernel
theorem dM_faultOf_175 : decode prog_7_method_29_code 175 = .ok (.istore_n 3, 1) := by decide +kernel
theorem dM_faultOf_176 : decode prog_7_method_29_code 176 = .ok (.iload_n 3, 1) := by decide +kernel
theorem dM_faultOf_177 : decode prog_7_method_29_code 177 = .ok (.ifCond .eq 7, 3) := by decide +kernel
theorem dM_faultOf_180 : decode prog_7_method_29_code 180 = .ok (.iconst 4, 1) := by decide +kernel
theorem dM_faultOf_181 : decode prog_7_method_29_code 181 = .ok (.goto 31, 3) := by decide +kernel
theorem dM_faultOf_184 : decode prog_7_method_29_code 184 = .ok (.iload_n 2, 1) := by decide +kernel
theorem dM_faultOf_185 : decode prog_7_method_29_code 185 = .ok (.bipush 19, 2) := by decide +kernel
theorem dM_faultOf_187 : decode prog_7_method_29_code 187 = .ok (.if_icmp .ne 24, 3) := by decide +kernel
theorem dM_faultOf_190 : decode prog_7_method_29_code 190 = .ok (.aload_n 0, 1) := by decide +kernel
theorem dM_faultOf_191 : decode prog_7_method_29_code 191 = .ok (.getfield 56, 3) := by decide +kernel
theorem dM_faultOf_194 : decode prog_7_method_29_code 194 = .ok (.bipush 8, 2) := by decide +kernel
theorem dM_faultOf_196 : decode prog_7_method_29_code 196 = .ok (.iload_n 1, 1) := by decide +kernel
theorem dM_faultOf_197 : decode prog_7_method_29_code 197 = .ok (.imul, 1) := by decide +kernel
theorem dM_faultOf_198 : decode prog_7_method_29_code 198 = .ok (.aload_n 0, 1) := by decide +kernel
theorem dM_faultOf_199 : decode prog_7_method_29_code 199 = .ok (.getfield 113, 3) := by decide +kernel
theorem dM_faultOf_202 : decode prog_7_method_29_code 202 = .ok (.iadd, 1) := by decide +kernel
theorem dM_faultOf_203 : decode prog_7_method_29_code 203 = .ok (.iaload, 1) := by decide +kernel
theorem dM_faultOf_204 : decode prog_7_method_29_code 204 = .ok (.ifCond .eq 7, 3) := by decide +kernel
theorem dM_faultOf_207 : decode prog_7_method_29_code 207 = .ok (.iconst 5, 1) := by decide +kernel
theorem dM_faultOf_208 : decode prog_7_method_29_code 208 = .ok (.goto 4, 3) := by decide +kernel
theorem dM_faultOf_211 : decode prog_7_method_29_code 211 = .ok (.iconst 0, 1) := by decide +kernel
theorem dM_faultOf_212 : decode prog_7_method_29_code 212 = .ok (.ireturn, 1) := by decide +kernel
theorem dM_lacks_0 : decode prog_7_method_28_code 0 = .ok (.bipush 8, 2) := by decide +kernel
theorem dM_lacks_2 : decode prog_7_method_28_code 2 = .ok (.iload_n 1, 1) := by decide +kernel
theorem dM_lacks_3 : decode prog_7_method_28_code 3 = .ok (.imul, 1) := by decide +kernel
theorem dM_lacks_4 : decode prog_7_method_28_code 4 = .ok (.aload_n 0, 1) := by decide +kernel
theorem dM_lacks_5 : decode prog_7_method_28_code 5 = .ok (.getfield 142, 3) := by decide +kernel
theorem dM_lacks_8 : decode prog_7_method_28_code 8 = .ok (.iadd, 1) := by decide +kernel
theorem dM_lacks_9 : decode prog_7_method_28_code 9 = .ok (.istore 4, 2) := by decide +kernel
theorem dM_lacks_11 : decode prog_7_method_28_code 11 = .ok (.aload_n 0, 1) := by decide +kernel
theorem dM_lacks_12 : decode prog_7_method_28_code 12 = .ok (.getfield 56, 3) := by decide +kernel
theorem dM_lacks_15 : decode prog_7_method_28_code 15 = .ok (.iload 4, 2) := by decide +kernel
theorem dM_lacks_17 : decode prog_7_method_28_code 17 = .ok (.iaload, 1) := by decide +kernel
theorem dM_lacks_18 : decode prog_7_method_28_code 18 = .ok (.ifCond .eq 31, 3) := by decide +kernel
theorem dM_lacks_21 : decode prog_7_method_28_code 21 = .ok (.iload_n 2, 1) := by decide +kernel
theorem dM_lacks_22 : decode prog_7_method_28_code 22 = .ok (.ifCond .le 14, 3) := by decide +kernel
theorem dM_lacks_25 : decode prog_7_method_28_code 25 = .ok (.aload_n 0, 1) := by decide +kernel
theorem dM_lacks_26 : decode prog_7_method_28_code 26 = .ok (.getfield 56, 3) := by decide +kernel
theorem dM_lacks_29 : decode prog_7_method_28_code 29 = .ok (.iload 4, 2) := by decide +kernel
theorem dM_lacks_31 : decode prog_7_method_28_code 31 = .ok (.iaload, 1) := by decide +kernel
theorem dM_lacks_32 : decode prog_7_method_28_code 32 = .ok (.iload_n 2, 1) := by decide +kernel
theorem dM_lacks_33 : decode prog_7_method_28_code 33 = .ok (.if_icmp .ne 16, 3) := by decide +kernel
theorem dM_lacks_36 : decode prog_7_method_28_code 36 = .ok (.aload_n 0, 1) := by decide +kernel
theorem dM_lacks_37 : decode prog_7_method_28_code 37 = .ok (.getfield 62, 3) := by decide +kernel
theorem dM_lacks_40 : decode prog_7_method_28_code 40 = .ok (.iload 4, 2) := by decide +kernel
theorem dM_lacks_42 : decode prog_7_method_28_code 42 = .ok (.iaload, 1) := by decide +kernel
theorem dM_lacks_43 : decode prog_7_method_28_code 43 = .ok (.iload_n 3, 1) := by decide +kernel
theorem dM_lacks_44 : decode prog_7_method_28_code 44 = .ok (.iand, 1) := by decide +kernel
theorem dM_lacks_45 : decode prog_7_method_28_code 45 = .ok (.iload_n 3, 1) := by decide +kernel
theorem dM_lacks_46 : decode prog_7_method_28_code 46 = .ok (.if_icmp .eq 7, 3) := by decide +kernel
theorem dM_lacks_49 : decode prog_7_method_28_code 49 = .ok (.iconst 1, 1) := by decide +kernel
theorem dM_lacks_50 : decode prog_7_method_28_code 50 = .ok (.goto 4, 3) := by decide +kernel
theorem dM_lacks_53 : decode prog_7_method_28_code 53 = .ok (.iconst 0, 1) := by decide +kernel
theorem dM_lacks_54 : decode prog_7_method_28_code 54 = .ok (.ireturn, 1) := by decide +kernel
theorem dM_act_0 : decode prog_7_method_32_code 0 = .ok (.bipush 8, 2) := by decide +kernel
theorem dM_act_2 : decode prog_7_method_32_code 2 = .ok (.iload_n 1, 1) := by decide +kernel
theorem dM_act_3 : decode prog_7_method_32_code 3 = .ok (.imul, 1) := by decide +kernel
theorem dM_act_4 : decode prog_7_method_32_code 4 = .ok (.aload_n 0, 1) := by decide +kernel
theorem dM_act_5 : decode prog_7_method_32_code 5 = .ok (.getfield 142, 3) := by decide +kernel
theorem dM_act_8 : decode prog_7_method_32_code 8 = .ok (.iadd, 1) := by decide +kernel
theorem dM_act_9 : decode prog_7_method_32_code 9 = .ok (.istore_n 3, 1) := by decide +kernel
theorem dM_act_10 : decode prog_7_method_32_code 10 = .ok (.aload_n 0, 1) := by decide +kernel
theorem dM_act_11 : decode prog_7_method_32_code 11 = .ok (.getfield 31, 3) := by decide +kernel
theorem dM_act_14 : decode prog_7_method_32_code 14 = .ok (.bipush 8, 2) := by decide +kernel
theorem dM_act_16 : decode prog_7_method_32_code 16 = .ok (.iload_n 1, 1) := by decide +kernel
theorem dM_act_17 : decode prog_7_method_32_code 17 = .ok (.imul, 1) := by decide +kernel
theorem dM_act_18 : decode prog_7_method_32_code 18 = .ok (.aload_n 0, 1) := by decide +kernel
theorem dM_act_19 : decode prog_7_method_32_code 19 = .ok (.getfield 113, 3) := by decide +kernel
theorem dM_act_22 : decode prog_7_method_32_code 22 = .ok (.iadd, 1) := by decide +kernel
theorem dM_act_23 : decode prog_7_method_32_code 23 = .ok (.iaload, 1) := by decide +kernel
theorem dM_act_24 : decode prog_7_method_32_code 24 = .ok (.istore 4, 2) := by decide +kernel
theorem dM_act_26 : decode prog_7_method_32_code 26 = .ok (.aload_n 0, 1) := by decide +kernel
theorem dM_act_27 : decode prog_7_method_32_code 27 = .ok (.getfield 31, 3) := by decide +kernel
theorem dM_act_30 : decode prog_7_method_32_code 30 = .ok (.bipush 8, 2) := by decide +kernel
theorem dM_act_32 : decode prog_7_method_32_code 32 = .ok (.iload_n 1, 1) := by decide +kernel
theorem dM_act_33 : decode prog_7_method_32_code 33 = .ok (.imul, 1) := by decide +kernel
theorem dM_act_34 : decode prog_7_method_32_code 34 = .ok (.aload_n 0, 1) := by decide +kernel
theorem dM_act_35 : decode prog_7_method_32_code 35 = .ok (.getfield 116, 3) := by decide +kernel
theorem dM_act_38 : decode prog_7_method_32_code 38 = .ok (.iadd, 1) := by decide +kernel
theorem dM_act_39 : decode prog_7_method_32_code 39 = .ok (.iaload, 1) := by decide +kernel
theorem dM_act_40 : decode prog_7_method_32_code 40 = .ok (.istore 5, 2) := by decide +kernel
theorem dM_act_42 : decode prog_7_method_32_code 42 = .ok (.aload_n 0, 1) := by decide +kernel
theorem dM_act_43 : decode prog_7_method_32_code 43 = .ok (.getfield 59, 3) := by decide +kernel
theorem dM_act_46 : decode prog_7_method_32_code 46 = .ok (.iload_n 3, 1) := by decide +kernel
theorem dM_act_47 : decode prog_7_method_32_code 47 = .ok (.iaload, 1) := by decide +kernel
theorem dM_act_48 : decode prog_7_method_32_code 48 = .ok (.istore 6, 2) := by decide +kernel
theorem dM_act_50 : decode prog_7_method_32_code 50 = .ok (.iload_n 2, 1) := by decide +kernel
theorem dM_act_51 : decode prog_7_method_32_code 51 = .ok (.ifCond .ne 14, 3) := by decide +kernel
theorem dM_act_54 : decode prog_7_method_32_code 54 = .ok (.aload_n 0, 1) := by decide +kernel
theorem dM_act_55 : decode prog_7_method_32_code 55 = .ok (.getfield 13, 3) := by decide +kernel
theorem dM_act_58 : decode prog_7_method_32_code 58 = .ok (.iload_n 1, 1) := by decide +kernel
theorem dM_act_59 : decode prog_7_method_32_code 59 = .ok (.bipush 6, 2) := by decide +kernel
theorem dM_act_61 : decode prog_7_method_32_code 61 = .ok (.iastore, 1) := by decide +kernel
theorem dM_act_62 : decode prog_7_method_32_code 62 = .ok (.goto 284, 3) := by decide +kernel
theorem dM_act_65 : decode prog_7_method_32_code 65 = .ok (.iload_n 2, 1) := by decide +kernel
theorem dM_act_66 : decode prog_7_method_32_code 66 = .ok (.bipush 8, 2) := by decide +kernel
theorem dM_act_68 : decode prog_7_method_32_code 68 = .ok (.if_icmp .ge 21, 3) := by decide +kernel
theorem dM_act_71 : decode prog_7_method_32_code 71 = .ok (.aload_n 0, 1) := by decide +kernel
theorem dM_act_72 : decode prog_7_method_32_code 72 = .ok (.getfield 31, 3) := by decide +kernel
theorem dM_act_75 : decode prog_7_method_32_code 75 = .ok (.iload_n 3, 1) := by decide +kernel
theorem dM_act_76 : decode prog_7_method_32_code 76 = .ok (.aload_n 0, 1) := by decide +kernel
theorem dM_act_77 : decode prog_7_method_32_code 77 = .ok (.iload_n 2, 1) := by decide +kernel
theorem dM_act_78 : decode prog_7_method_32_code 78 = .ok (.iload 4, 2) := by decide +kernel
theorem dM_act_80 : decode prog_7_method_32_code 80 = .ok (.iload 5, 2) := by decide +kernel
theorem dM_act_82 : decode prog_7_method_32_code 82 = .ok (.invokevirtual 152, 3) := by decide +kernel
theorem dM_act_85 : decode prog_7_method_32_code 85 = .ok (.iastore, 1) := by decide +kernel
theorem dM_act_86 : decode prog_7_method_32_code 86 = .ok (.goto 260, 3) := by decide +kernel
theorem dM_act_89 : decode prog_7_method_32_code 89 = .ok (.iload_n 2, 1) := by decide +kernel
theorem dM_act_90 : decode prog_7_method_32_code 90 = .ok (.bipush 8, 2) := by decide +kernel
theorem dM_act_92 : decode prog_7_method_32_code 92 = .ok (.if_icmp .ne 31, 3) := by decide +kernel
theorem dM_act_95 : decode prog_7_method_32_code 95 = .ok (.aload_n 0, 1) := by decide +kernel
theorem dM_act_96 : decode prog_7_method_32_code 96 = .ok (.getfield 31, 3) := by decide +kernel
theorem dM_act_99 : decode prog_7_method_32_code 99 = .ok (.iload_n 3, 1) := by decide +kernel
theorem dM_act_100 : decode prog_7_method_32_code 100 = .ok (.aload_n 0, 1) := by decide +kernel
theorem dM_act_101 : decode prog_7_method_32_code 101 = .ok (.getfield 7, 3) := by decide +kernel
theorem dM_act_104 : decode prog_7_method_32_code 104 = .ok (.aload_n 0, 1) := by decide +kernel
theorem dM_act_105 : decode prog_7_method_32_code 105 = .ok (.getfield 22, 3) := by decide +kernel
theorem dM_act_108 : decode prog_7_method_32_code 108 = .ok (.iload_n 1, 1) := by decide +kernel
theorem dM_act_109 : decode prog_7_method_32_code 109 = .ok (.iaload, 1) := by decide +kernel
theorem dM_act_110 : decode prog_7_method_32_code 110 = .ok (.iload 4, 2) := by decide +kernel
theorem dM_act_112 : decode prog_7_method_32_code 112 = .ok (.iadd, 1) := by decide +kernel
theorem dM_act_113 : decode prog_7_method_32_code 113 = .ok (.aload_n 0, 1) := by decide +kernel
theorem dM_act_114 : decode prog_7_method_32_code 114 = .ok (.getfield 119, 3) := by decide +kernel
theorem dM_act_117 : decode prog_7_method_32_code 117 = .ok (.iadd, 1) := by decide +kernel
theorem dM_act_118 : decode prog_7_method_32_code 118 = .ok (.iaload, 1) := by decide +kernel
theorem dM_act_119 : decode prog_7_method_32_code 119 = .ok (.iastore, 1) := by decide +kernel
theorem dM_act_120 : decode prog_7_method_32_code 120 = .ok (.goto 226, 3) := by decide +kernel
theorem dM_act_123 : decode prog_7_method_32_code 123 = .ok (.iload_n 2, 1) := by decide +kernel
theorem dM_act_124 : decode prog_7_method_32_code 124 = .ok (.bipush 9, 2) := by decide +kernel
theorem dM_act_126 : decode prog_7_method_32_code 126 = .ok (.if_icmp .ne 31, 3) := by decide +kernel
theorem dM_act_129 : decode prog_7_method_32_code 129 = .ok (.aload_n 0, 1) := by decide +kernel
theorem dM_act_130 : decode prog_7_method_32_code 130 = .ok (.getfield 7, 3) := by decide +kernel
theorem dM_act_133 : decode prog_7_method_32_code 133 = .ok (.aload_n 0, 1) := by decide +kernel
theorem dM_act_134 : decode prog_7_method_32_code 134 = .ok (.getfield 22, 3) := by decide +kernel
theorem dM_act_137 : decode prog_7_method_32_code 137 = .ok (.iload_n 1, 1) := by decide +kernel
theorem dM_act_138 : decode prog_7_method_32_code 138 = .ok (.iaload, 1) := by decide +kernel
theorem dM_act_139 : decode prog_7_method_32_code 139 = .ok (.iload 4, 2) := by decide +kernel
theorem dM_act_141 : decode prog_7_method_32_code 141 = .ok (.iadd, 1) := by decide +kernel
theorem dM_act_142 : decode prog_7_method_32_code 142 = .ok (.aload_n 0, 1) := by decide +kernel
theorem dM_act_143 : decode prog_7_method_32_code 143 = .ok (.getfield 119, 3) := by decide +kernel
theorem dM_act_146 : decode prog_7_method_32_code 146 = .ok (.iadd, 1) := by decide +kernel
theorem dM_act_147 : decode prog_7_method_32_code 147 = .ok (.aload_n 0, 1) := by decide +kernel
theorem dM_act_148 : decode prog_7_method_32_code 148 = .ok (.getfield 31, 3) := by decide +kernel
theorem dM_act_151 : decode prog_7_method_32_code 151 = .ok (.iload_n 3, 1) := by decide +kernel
theorem dM_act_152 : decode prog_7_method_32_code 152 = .ok (.iaload, 1) := by decide +kernel
theorem dM_act_153 : decode prog_7_method_32_code 153 = .ok (.iastore, 1) := by decide +kernel
theorem dM_act_154 : decode prog_7_method_32_code 154 = .ok (.goto 192, 3) := by decide +kernel
theorem dM_act_157 : decode prog_7_method_32_code 157 = .ok (.iload_n 2, 1) := by decide +kernel
theorem dM_act_158 : decode prog_7_method_32_code 158 = .ok (.bipush 13, 2) := by decide +kernel
theorem dM_act_160 : decode prog_7_method_32_code 160 = .ok (.if_icmp .ge 12, 3) := by decide +kernel
theorem dM_act_163 : decode prog_7_method_32_code 163 = .ok (.aload_n 0, 1) := by decide +kernel
theorem dM_act_164 : decode prog_7_method_32_code 164 = .ok (.iload_n 1, 1) := by decide +kernel
theorem dM_act_165 : decode prog_7_method_32_code 165 = .ok (.iload_n 2, 1) := by decide +kernel
theorem dM_act_166 : decode prog_7_method_32_code 166 = .ok (.invokevirtual 156, 3) := by decide +kernel
theorem dM_act_169 : decode prog_7_method_32_code 169 = .ok (.goto 177, 3) := by decide +kernel
theorem dM_act_172 : decode prog_7_method_32_code 172 = .ok (.iload_n 2, 1) := by decide +kernel
theorem dM_act_173 : decode prog_7_method_32_code 173 = .ok (.bipush 14, 2) := by decide +kernel
theorem dM_act_175 : decode prog_7_method_32_code 175 = .ok (.if_icmp .ne 12, 3) := by decide +kernel
theorem dM_act_178 : decode prog_7_method_32_code 178 = .ok (.aload_n 0, 1) := by decide +kernel
theorem dM_act_179 : decode prog_7_method_32_code 179 = .ok (.iload 4, 2) := by decide +kernel
theorem dM_act_181 : decode prog_7_method_32_code 181 = .ok (.invokevirtual 159, 3) := by decide +kernel
theorem dM_act_184 : decode prog_7_method_32_code 184 = .ok (.goto 162, 3) := by decide +kernel
theorem dM_act_187 : decode prog_7_method_32_code 187 = .ok (.iload_n 2, 1) := by decide +kernel
theorem dM_act_188 : decode prog_7_method_32_code 188 = .ok (.bipush 15, 2) := by decide +kernel
theorem dM_act_190 : decode prog_7_method_32_code 190 = .ok (.if_icmp .eq 9, 3) := by decide +kernel
theorem dM_act_193 : decode prog_7_method_32_code 193 = .ok (.iload_n 2, 1) := by decide +kernel
theorem dM_act_194 : decode prog_7_method_32_code 194 = .ok (.bipush 16, 2) := by decide +kernel
theorem dM_act_196 : decode prog_7_method_32_code 196 = .ok (.if_icmp .ne 24, 3) := by decide +kernel
theorem dM_act_199 : decode prog_7_method_32_code 199 = .ok (.aload_n 0, 1) := by decide +kernel
theorem dM_act_200 : decode prog_7_method_32_code 200 = .ok (.iload_n 1, 1) := by decide +kernel
theorem dM_act_201 : decode prog_7_method_32_code 201 = .ok (.iload 6, 2) := by decide +kernel
theorem dM_act_203 : decode prog_7_method_32_code 203 = .ok (.iload_n 2, 1) := by decide +kernel
theorem dM_act_204 : decode prog_7_method_32_code 204 = .ok (.bipush 16, 2) := by decide +kernel
theorem dM_act_206 : decode prog_7_method_32_code 206 = .ok (.if_icmp .ne 7, 3) := by decide +kernel
theorem dM_act_209 : decode prog_7_method_32_code 209 = .ok (.iconst 1, 1) := by decide +kernel
theorem dM_act_210 : decode prog_7_method_32_code 210 = .ok (.goto 4, 3) := by decide +kernel
theorem dM_act_213 : decode prog_7_method_32_code 213 = .ok (.iconst 0, 1) := by decide +kernel
theorem dM_act_214 : decode prog_7_method_32_code 214 = .ok (.invokevirtual 162, 3) := by decide +kernel
theorem dM_act_217 : decode prog_7_method_32_code 217 = .ok (.goto 129, 3) := by decide +kernel
theorem dM_act_220 : decode prog_7_method_32_code 220 = .ok (.iload_n 2, 1) := by decide +kernel
theorem dM_act_221 : decode prog_7_method_32_code 221 = .ok (.bipush 17, 2) := by decide +kernel
theorem dM_act_223 : decode prog_7_method_32_code 223 = .ok (.if_icmp .ne 13, 3) := by decide +kernel
theorem dM_act_226 : decode prog_7_method_32_code 226 = .ok (.aload_n 0, 1) := by decide +kernel
theorem dM_act_227 : decode prog_7_method_32_code 227 = .ok (.iload_n 1, 1) := by decide +kernel
theorem dM_act_228 : decode prog_7_method_32_code 228 = .ok (.iload 6, 2) := by decide +kernel
theorem dM_act_230 : decode prog_7_method_32_code 230 = .ok (.invokevirtual 166, 3) := by decide +kernel
theorem dM_act_233 : decode prog_7_method_32_code 233 = .ok (.goto 113, 3) := by decide +kernel
theorem dM_act_236 : decode prog_7_method_32_code 236 = .ok (.iload_n 2, 1) := by decide +kernel
theorem dM_act_237 : decode prog_7_method_32_code 237 = .ok (.bipush 18, 2) := by decide +kernel
theorem dM_act_239 : decode prog_7_method_32_code 239 = .ok (.if_icmp .ne 11, 3) := by decide +kernel
theorem dM_act_242 : decode prog_7_method_32_code 242 = .ok (.aload_n 0, 1) := by decide +kernel
theorem dM_act_243 : decode prog_7_method_32_code 243 = .ok (.iload_n 1, 1) := by decide +kernel
theorem dM_act_244 : decode prog_7_method_32_code 244 = .ok (.invokevirtual 169, 3) := by decide +kernel
theorem dM_act_247 : decode prog_7_method_32_code 247 = .ok (.goto 99, 3) := by decide +kernel
theorem dM_act_250 : decode prog_7_method_32_code 250 = .ok (.iload_n 2, 1) := by decide +kernel
theorem dM_act_251 : decode prog_7_method_32_code 251 = .ok (.bipush 19, 2) := by decide +kernel
theorem dM_act_253 : decode prog_7_method_32_code 253 = .ok (.if_icmp .ne 31, 3) := by decide +kernel
theorem dM_act_256 : decode prog_7_method_32_code 256 = .ok (.aload_n 0, 1) := by decide +kernel
theorem dM_act_257 : decode prog_7_method_32_code 257 = .ok (.bipush 8, 2) := by decide +kernel
theorem dM_act_259 : decode prog_7_method_32_code 259 = .ok (.iload_n 1, 1) := by decide +kernel
theorem dM_act_260 : decode prog_7_method_32_code 260 = .ok (.imul, 1) := by decide +kernel
theorem dM_act_261 : decode prog_7_method_32_code 261 = .ok (.aload_n 0, 1) := by decide +kernel
theorem dM_act_262 : decode prog_7_method_32_code 262 = .ok (.getfield 113, 3) := by decide +kernel
theorem dM_act_265 : decode prog_7_method_32_code 265 = .ok (.iadd, 1) := by decide +kernel
theorem dM_act_266 : decode prog_7_method_32_code 266 = .ok (.iload_n 3, 1) := by decide +kernel
theorem dM_act_267 : decode prog_7_method_32_code 267 = .ok (.aload_n 0, 1) := by decide +kernel
theorem dM_act_268 : decode prog_7_method_32_code 268 = .ok (.getfield 62, 3) := by decide +kernel
theorem dM_act_271 : decode prog_7_method_32_code 271 = .ok (.iload_n 3, 1) := by decide +kernel
theorem dM_act_272 : decode prog_7_method_32_code 272 = .ok (.iaload, 1) := by decide +kernel
theorem dM_act_273 : decode prog_7_method_32_code 273 = .ok (.aload_n 0, 1) := by decide +kernel
theorem dM_act_274 : decode prog_7_method_32_code 274 = .ok (.getfield 119, 3) := by decide +kernel
theorem dM_act_277 : decode prog_7_method_32_code 277 = .ok (.iand, 1) := by decide +kernel
theorem dM_act_278 : decode prog_7_method_32_code 278 = .ok (.invokevirtual 122, 3) := by decide +kernel
theorem dM_act_281 : decode prog_7_method_32_code 281 = .ok (.goto 65, 3) := by decide +kernel
theorem dM_act_284 : decode prog_7_method_32_code 284 = .ok (.iload_n 2, 1) := by decide +kernel
theorem dM_act_285 : decode prog_7_method_32_code 285 = .ok (.bipush 20, 2) := by decide +kernel
theorem dM_act_287 : decode prog_7_method_32_code 287 = .ok (.if_icmp .ne 11, 3) := by decide +kernel
theorem dM_act_290 : decode prog_7_method_32_code 290 = .ok (.aload_n 0, 1) := by decide +kernel
theorem dM_act_291 : decode prog_7_method_32_code 291 = .ok (.iload_n 3, 1) := by decide +kernel
theorem dM_act_292 : decode prog_7_method_32_code 292 = .ok (.invokevirtual 110, 3) := by decide +kernel
theorem dM_act_295 : decode prog_7_method_32_code 295 = .ok (.goto 51, 3) := by decide +kernel
theorem dM_act_298 : decode prog_7_method_32_code 298 = .ok (.iload_n 2, 1) := by decide +kernel
theorem dM_act_299 : decode prog_7_method_32_code 299 = .ok (.bipush 21, 2) := by decide +kernel
theorem dM_act_301 : decode prog_7_method_32_code 301 = .ok (.if_icmp .ne 11, 3) := by decide +kernel
theorem dM_act_304 : decode prog_7_method_32_code 304 = .ok (.aload_n 0, 1) := by decide +kernel
theorem dM_act_305 : decode prog_7_method_32_code 305 = .ok (.iload_n 3, 1) := by decide +kernel
theorem dM_act_306 : decode prog_7_method_32_code 306 = .ok (.invokevirtual 172, 3) := by decide +kernel
theorem dM_act_309 : decode prog_7_method_32_code 309 = .ok (.goto 37, 3) := by decide +kernel
theorem dM_act_312 : decode prog_7_method_32_code 312 = .ok (.iload_n 2, 1) := by decide +kernel
theorem dM_act_313 : decode prog_7_method_32_code 313 = .ok (.bipush 22, 2) := by decide +kernel
theorem dM_act_315 : decode prog_7_method_32_code 315 = .ok (.if_icmp .ne 31, 3) := by decide +kernel
theorem dM_act_318 : decode prog_7_method_32_code 318 = .ok (.aload_n 0, 1) := by decide +kernel
theorem dM_act_319 : decode prog_7_method_32_code 319 = .ok (.getfield 31, 3) := by decide +kernel
theorem dM_act_322 : decode prog_7_method_32_code 322 = .ok (.iload_n 3, 1) := by decide +kernel
theorem dM_act_323 : decode prog_7_method_32_code 323 = .ok (.aload_n 0, 1) := by decide +kernel
theorem dM_act_324 : decode prog_7_method_32_code 324 = .ok (.getfield 56, 3) := by decide +kernel
theorem dM_act_327 : decode prog_7_method_32_code 327 = .ok (.bipush 8, 2) := by decide +kernel
theorem dM_act_329 : decode prog_7_method_32_code 329 = .ok (.iload_n 1, 1) := by decide +kernel
theorem dM_act_330 : decode prog_7_method_32_code 330 = .ok (.imul, 1) := by decide +kernel
theorem dM_act_331 : decode prog_7_method_32_code 331 = .ok (.aload_n 0, 1) := by decide +kernel
theorem dM_act_332 : decode prog_7_method_32_code 332 = .ok (.getfield 113, 3) := by decide +kernel
theorem dM_act_335 : decode prog_7_method_32_code 335 = .ok (.iadd, 1) := by decide +kernel
