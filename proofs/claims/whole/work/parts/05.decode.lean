theorem dM_act_336 : decode prog_7_method_32_code 336 = .ok (.iaload, 1) := by decide +kernel
theorem dM_act_337 : decode prog_7_method_32_code 337 = .ok (.ifCond .eq 7, 3) := by decide +kernel
theorem dM_act_340 : decode prog_7_method_32_code 340 = .ok (.iconst 1, 1) := by decide +kernel
theorem dM_act_341 : decode prog_7_method_32_code 341 = .ok (.goto 4, 3) := by decide +kernel
theorem dM_act_344 : decode prog_7_method_32_code 344 = .ok (.iconst 0, 1) := by decide +kernel
theorem dM_act_345 : decode prog_7_method_32_code 345 = .ok (.iastore, 1) := by decide +kernel
theorem dM_act_346 : decode prog_7_method_32_code 346 = .ok (.return_, 1) := by decide +kernel
theorem dM_result_0 : decode prog_7_method_30_code 0 = .ok (.iload_n 1, 1) := by decide +kernel
theorem dM_result_1 : decode prog_7_method_30_code 1 = .ok (.tableswitch 62 1 6 #[39, 44, 46, 50, 54, 58], 39) := by decide +kernel
theorem dM_result_40 : decode prog_7_method_30_code 40 = .ok (.aload_n 0, 1) := by decide +kernel
theorem dM_result_41 : decode prog_7_method_30_code 41 = .ok (.getfield 119, 3) := by decide +kernel
theorem dM_result_44 : decode prog_7_method_30_code 44 = .ok (.ireturn, 1) := by decide +kernel
theorem dM_result_45 : decode prog_7_method_30_code 45 = .ok (.iload_n 2, 1) := by decide +kernel
theorem dM_result_46 : decode prog_7_method_30_code 46 = .ok (.ireturn, 1) := by decide +kernel
theorem dM_result_47 : decode prog_7_method_30_code 47 = .ok (.iload_n 2, 1) := by decide +kernel
theorem dM_result_48 : decode prog_7_method_30_code 48 = .ok (.iload_n 3, 1) := by decide +kernel
theorem dM_result_49 : decode prog_7_method_30_code 49 = .ok (.iadd, 1) := by decide +kernel
theorem dM_result_50 : decode prog_7_method_30_code 50 = .ok (.ireturn, 1) := by decide +kernel
theorem dM_result_51 : decode prog_7_method_30_code 51 = .ok (.iload_n 2, 1) := by decide +kernel
theorem dM_result_52 : decode prog_7_method_30_code 52 = .ok (.iload_n 3, 1) := by decide +kernel
theorem dM_result_53 : decode prog_7_method_30_code 53 = .ok (.isub, 1) := by decide +kernel
theorem dM_result_54 : decode prog_7_method_30_code 54 = .ok (.ireturn, 1) := by decide +kernel
theorem dM_result_55 : decode prog_7_method_30_code 55 = .ok (.iload_n 2, 1) := by decide +kernel
theorem dM_result_56 : decode prog_7_method_30_code 56 = .ok (.iload_n 3, 1) := by decide +kernel
theorem dM_result_57 : decode prog_7_method_30_code 57 = .ok (.imul, 1) := by decide +kernel
theorem dM_result_58 : decode prog_7_method_30_code 58 = .ok (.ireturn, 1) := by decide +kernel
theorem dM_result_59 : decode prog_7_method_30_code 59 = .ok (.iload_n 2, 1) := by decide +kernel
theorem dM_result_60 : decode prog_7_method_30_code 60 = .ok (.iload_n 3, 1) := by decide +kernel
theorem dM_result_61 : decode prog_7_method_30_code 61 = .ok (.iand, 1) := by decide +kernel
theorem dM_result_62 : decode prog_7_method_30_code 62 = .ok (.ireturn, 1) := by decide +kernel
theorem dM_result_63 : decode prog_7_method_30_code 63 = .ok (.iload_n 2, 1) := by decide +kernel
theorem dM_result_64 : decode prog_7_method_30_code 64 = .ok (.iload_n 3, 1) := by decide +kernel
theorem dM_result_65 : decode prog_7_method_30_code 65 = .ok (.ixor, 1) := by decide +kernel
theorem dM_result_66 : decode prog_7_method_30_code 66 = .ok (.ireturn, 1) := by decide +kernel
theorem dM_move_0 : decode prog_7_method_31_code 0 = .ok (.aload_n 0, 1) := by decide +kernel
theorem dM_move_1 : decode prog_7_method_31_code 1 = .ok (.getfield 31, 3) := by decide +kernel
theorem dM_move_4 : decode prog_7_method_31_code 4 = .ok (.bipush 8, 2) := by decide +kernel
theorem dM_move_6 : decode prog_7_method_31_code 6 = .ok (.iload_n 1, 1) := by decide +kernel
theorem dM_move_7 : decode prog_7_method_31_code 7 = .ok (.imul, 1) := by decide +kernel
theorem dM_move_8 : decode prog_7_method_31_code 8 = .ok (.aload_n 0, 1) := by decide +kernel
theorem dM_move_9 : decode prog_7_method_31_code 9 = .ok (.getfield 142, 3) := by decide +kernel
theorem dM_move_12 : decode prog_7_method_31_code 12 = .ok (.iadd, 1) := by decide +kernel
theorem dM_move_13 : decode prog_7_method_31_code 13 = .ok (.iaload, 1) := by decide +kernel
theorem dM_move_14 : decode prog_7_method_31_code 14 = .ok (.istore_n 3, 1) := by decide +kernel
theorem dM_move_15 : decode prog_7_method_31_code 15 = .ok (.iload_n 2, 1) := by decide +kernel
theorem dM_move_16 : decode prog_7_method_31_code 16 = .ok (.bipush 10, 2) := by decide +kernel
theorem dM_move_18 : decode prog_7_method_31_code 18 = .ok (.if_icmp .eq 23, 3) := by decide +kernel
theorem dM_move_21 : decode prog_7_method_31_code 21 = .ok (.iload_n 2, 1) := by decide +kernel
theorem dM_move_22 : decode prog_7_method_31_code 22 = .ok (.bipush 11, 2) := by decide +kernel
theorem dM_move_24 : decode prog_7_method_31_code 24 = .ok (.if_icmp .ne 7, 3) := by decide +kernel
theorem dM_move_27 : decode prog_7_method_31_code 27 = .ok (.iload_n 3, 1) := by decide +kernel
theorem dM_move_28 : decode prog_7_method_31_code 28 = .ok (.ifCond .eq 13, 3) := by decide +kernel
theorem dM_move_31 : decode prog_7_method_31_code 31 = .ok (.iload_n 2, 1) := by decide +kernel
theorem dM_move_32 : decode prog_7_method_31_code 32 = .ok (.bipush 12, 2) := by decide +kernel
theorem dM_move_34 : decode prog_7_method_31_code 34 = .ok (.if_icmp .ne 11, 3) := by decide +kernel
theorem dM_move_37 : decode prog_7_method_31_code 37 = .ok (.iload_n 3, 1) := by decide +kernel
theorem dM_move_38 : decode prog_7_method_31_code 38 = .ok (.ifCond .ge 7, 3) := by decide +kernel
theorem dM_move_41 : decode prog_7_method_31_code 41 = .ok (.iconst 1, 1) := by decide +kernel
theorem dM_move_42 : decode prog_7_method_31_code 42 = .ok (.goto 4, 3) := by decide +kernel
theorem dM_move_45 : decode prog_7_method_31_code 45 = .ok (.iconst 0, 1) := by decide +kernel
theorem dM_move_46 : decode prog_7_method_31_code 46 = .ok (.istore 4, 2) := by decide +kernel
theorem dM_move_48 : decode prog_7_method_31_code 48 = .ok (.aload_n 0, 1) := by decide +kernel
theorem dM_move_49 : decode prog_7_method_31_code 49 = .ok (.iload 4, 2) := by decide +kernel
theorem dM_move_51 : decode prog_7_method_31_code 51 = .ok (.ifCond .eq 10, 3) := by decide +kernel
theorem dM_move_54 : decode prog_7_method_31_code 54 = .ok (.aload_n 0, 1) := by decide +kernel
theorem dM_move_55 : decode prog_7_method_31_code 55 = .ok (.getfield 119, 3) := by decide +kernel
theorem dM_move_58 : decode prog_7_method_31_code 58 = .ok (.goto 7, 3) := by decide +kernel
theorem dM_move_61 : decode prog_7_method_31_code 61 = .ok (.aload_n 0, 1) := by decide +kernel
theorem dM_move_62 : decode prog_7_method_31_code 62 = .ok (.getfield 149, 3) := by decide +kernel
theorem dM_move_65 : decode prog_7_method_31_code 65 = .ok (.putfield 149, 3) := by decide +kernel
theorem dM_move_68 : decode prog_7_method_31_code 68 = .ok (.return_, 1) := by decide +kernel
theorem dM_write_0 : decode prog_7_method_27_code 0 = .ok (.aload_n 0, 1) := by decide +kernel
theorem dM_write_1 : decode prog_7_method_27_code 1 = .ok (.getfield 68, 3) := by decide +kernel
theorem dM_write_4 : decode prog_7_method_27_code 4 = .ok (.aload_n 0, 1) := by decide +kernel
theorem dM_write_5 : decode prog_7_method_27_code 5 = .ok (.getfield 139, 3) := by decide +kernel
theorem dM_write_8 : decode prog_7_method_27_code 8 = .ok (.bipush 15, 2) := by decide +kernel
theorem dM_write_10 : decode prog_7_method_27_code 10 = .ok (.iand, 1) := by decide +kernel
theorem dM_write_11 : decode prog_7_method_27_code 11 = .ok (.iload_n 1, 1) := by decide +kernel
theorem dM_write_12 : decode prog_7_method_27_code 12 = .ok (.iastore, 1) := by decide +kernel
theorem dM_write_13 : decode prog_7_method_27_code 13 = .ok (.aload_n 0, 1) := by decide +kernel
theorem dM_write_14 : decode prog_7_method_27_code 14 = .ok (.aload_n 0, 1) := by decide +kernel
theorem dM_write_15 : decode prog_7_method_27_code 15 = .ok (.getfield 139, 3) := by decide +kernel
theorem dM_write_18 : decode prog_7_method_27_code 18 = .ok (.iconst 1, 1) := by decide +kernel
theorem dM_write_19 : decode prog_7_method_27_code 19 = .ok (.iadd, 1) := by decide +kernel
theorem dM_write_20 : decode prog_7_method_27_code 20 = .ok (.putfield 139, 3) := by decide +kernel
theorem dM_write_23 : decode prog_7_method_27_code 23 = .ok (.return_, 1) := by decide +kernel
theorem dM_send_0 : decode prog_7_method_24_code 0 = .ok (.aload_n 0, 1) := by decide +kernel
theorem dM_send_1 : decode prog_7_method_24_code 1 = .ok (.iload_n 1, 1) := by decide +kernel
theorem dM_send_2 : decode prog_7_method_24_code 2 = .ok (.invokevirtual 126, 3) := by decide +kernel
theorem dM_send_5 : decode prog_7_method_24_code 5 = .ok (.aload_n 0, 1) := by decide +kernel
theorem dM_send_6 : decode prog_7_method_24_code 6 = .ok (.getfield 53, 3) := by decide +kernel
theorem dM_send_9 : decode prog_7_method_24_code 9 = .ok (.iload_n 1, 1) := by decide +kernel
theorem dM_send_10 : decode prog_7_method_24_code 10 = .ok (.iload_n 3, 1) := by decide +kernel
theorem dM_send_11 : decode prog_7_method_24_code 11 = .ok (.bastore, 1) := by decide +kernel
theorem dM_send_12 : decode prog_7_method_24_code 12 = .ok (.aload_n 0, 1) := by decide +kernel
theorem dM_send_13 : decode prog_7_method_24_code 13 = .ok (.iload_n 2, 1) := by decide +kernel
theorem dM_send_14 : decode prog_7_method_24_code 14 = .ok (.iconst 4, 1) := by decide +kernel
theorem dM_send_15 : decode prog_7_method_24_code 15 = .ok (.invokevirtual 129, 3) := by decide +kernel
theorem dM_send_18 : decode prog_7_method_24_code 18 = .ok (.istore 4, 2) := by decide +kernel
theorem dM_send_20 : decode prog_7_method_24_code 20 = .ok (.iload 4, 2) := by decide +kernel
theorem dM_send_22 : decode prog_7_method_24_code 22 = .ok (.ifCond .ge 11, 3) := by decide +kernel
theorem dM_send_25 : decode prog_7_method_24_code 25 = .ok (.aload_n 0, 1) := by decide +kernel
theorem dM_send_26 : decode prog_7_method_24_code 26 = .ok (.iload_n 1, 1) := by decide +kernel
theorem dM_send_27 : decode prog_7_method_24_code 27 = .ok (.iload_n 2, 1) := by decide +kernel
theorem dM_send_28 : decode prog_7_method_24_code 28 = .ok (.iconst 2, 1) := by decide +kernel
theorem dM_send_29 : decode prog_7_method_24_code 29 = .ok (.invokevirtual 132, 3) := by decide +kernel
theorem dM_send_32 : decode prog_7_method_24_code 32 = .ok (.return_, 1) := by decide +kernel
theorem dM_send_33 : decode prog_7_method_24_code 33 = .ok (.aload_n 0, 1) := by decide +kernel
theorem dM_send_34 : decode prog_7_method_24_code 34 = .ok (.iload_n 1, 1) := by decide +kernel
theorem dM_send_35 : decode prog_7_method_24_code 35 = .ok (.iload 4, 2) := by decide +kernel
theorem dM_send_37 : decode prog_7_method_24_code 37 = .ok (.invokevirtual 135, 3) := by decide +kernel
theorem dM_send_40 : decode prog_7_method_24_code 40 = .ok (.aload_n 0, 1) := by decide +kernel
theorem dM_send_41 : decode prog_7_method_24_code 41 = .ok (.iload 4, 2) := by decide +kernel
theorem dM_send_43 : decode prog_7_method_24_code 43 = .ok (.invokevirtual 101, 3) := by decide +kernel
theorem dM_send_46 : decode prog_7_method_24_code 46 = .ok (.aload_n 0, 1) := by decide +kernel
theorem dM_send_47 : decode prog_7_method_24_code 47 = .ok (.getfield 13, 3) := by decide +kernel
theorem dM_send_50 : decode prog_7_method_24_code 50 = .ok (.iload_n 1, 1) := by decide +kernel
theorem dM_send_51 : decode prog_7_method_24_code 51 = .ok (.iload_n 3, 1) := by decide +kernel
theorem dM_send_52 : decode prog_7_method_24_code 52 = .ok (.ifCond .eq 7, 3) := by decide +kernel
theorem dM_send_55 : decode prog_7_method_24_code 55 = .ok (.iconst 3, 1) := by decide +kernel
theorem dM_send_56 : decode prog_7_method_24_code 56 = .ok (.goto 4, 3) := by decide +kernel
theorem dM_send_59 : decode prog_7_method_24_code 59 = .ok (.iconst 1, 1) := by decide +kernel
theorem dM_send_60 : decode prog_7_method_24_code 60 = .ok (.iastore, 1) := by decide +kernel
theorem dM_send_61 : decode prog_7_method_24_code 61 = .ok (.return_, 1) := by decide +kernel
theorem dM_say_0 : decode prog_7_method_21_code 0 = .ok (.aload_n 0, 1) := by decide +kernel
theorem dM_say_1 : decode prog_7_method_21_code 1 = .ok (.getfield 40, 3) := by decide +kernel
theorem dM_say_4 : decode prog_7_method_21_code 4 = .ok (.iload_n 1, 1) := by decide +kernel
theorem dM_say_5 : decode prog_7_method_21_code 5 = .ok (.aload_n 0, 1) := by decide +kernel
theorem dM_say_6 : decode prog_7_method_21_code 6 = .ok (.getfield 113, 3) := by decide +kernel
theorem dM_say_9 : decode prog_7_method_21_code 9 = .ok (.iastore, 1) := by decide +kernel
theorem dM_say_10 : decode prog_7_method_21_code 10 = .ok (.aload_n 0, 1) := by decide +kernel
theorem dM_say_11 : decode prog_7_method_21_code 11 = .ok (.getfield 43, 3) := by decide +kernel
theorem dM_say_14 : decode prog_7_method_21_code 14 = .ok (.iload_n 1, 1) := by decide +kernel
theorem dM_say_15 : decode prog_7_method_21_code 15 = .ok (.aload_n 0, 1) := by decide +kernel
theorem dM_say_16 : decode prog_7_method_21_code 16 = .ok (.getfield 116, 3) := by decide +kernel
theorem dM_say_19 : decode prog_7_method_21_code 19 = .ok (.iastore, 1) := by decide +kernel
theorem dM_say_20 : decode prog_7_method_21_code 20 = .ok (.aload_n 0, 1) := by decide +kernel
theorem dM_say_21 : decode prog_7_method_21_code 21 = .ok (.getfield 46, 3) := by decide +kernel
theorem dM_say_24 : decode prog_7_method_21_code 24 = .ok (.iload_n 1, 1) := by decide +kernel
theorem dM_say_25 : decode prog_7_method_21_code 25 = .ok (.aload_n 0, 1) := by decide +kernel
theorem dM_say_26 : decode prog_7_method_21_code 26 = .ok (.getfield 119, 3) := by decide +kernel
theorem dM_say_29 : decode prog_7_method_21_code 29 = .ok (.iconst 1, 1) := by decide +kernel
theorem dM_say_30 : decode prog_7_method_21_code 30 = .ok (.iand, 1) := by decide +kernel
theorem dM_say_31 : decode prog_7_method_21_code 31 = .ok (.iconst 1, 1) := by decide +kernel
theorem dM_say_32 : decode prog_7_method_21_code 32 = .ok (.if_icmp .ne 7, 3) := by decide +kernel
theorem dM_say_35 : decode prog_7_method_21_code 35 = .ok (.iconst 1, 1) := by decide +kernel
theorem dM_say_36 : decode prog_7_method_21_code 36 = .ok (.goto 4, 3) := by decide +kernel
theorem dM_say_39 : decode prog_7_method_21_code 39 = .ok (.iconst 0, 1) := by decide +kernel
theorem dM_say_40 : decode prog_7_method_21_code 40 = .ok (.bastore, 1) := by decide +kernel
theorem dM_say_41 : decode prog_7_method_21_code 41 = .ok (.aload_n 0, 1) := by decide +kernel
theorem dM_say_42 : decode prog_7_method_21_code 42 = .ok (.getfield 50, 3) := by decide +kernel
theorem dM_say_45 : decode prog_7_method_21_code 45 = .ok (.iload_n 1, 1) := by decide +kernel
theorem dM_say_46 : decode prog_7_method_21_code 46 = .ok (.aload_n 0, 1) := by decide +kernel
theorem dM_say_47 : decode prog_7_method_21_code 47 = .ok (.getfield 31, 3) := by decide +kernel
theorem dM_say_50 : decode prog_7_method_21_code 50 = .ok (.bipush 8, 2) := by decide +kernel
theorem dM_say_52 : decode prog_7_method_21_code 52 = .ok (.iload_n 1, 1) := by decide +kernel
theorem dM_say_53 : decode prog_7_method_21_code 53 = .ok (.imul, 1) := by decide +kernel
theorem dM_say_54 : decode prog_7_method_21_code 54 = .ok (.aload_n 0, 1) := by decide +kernel
theorem dM_say_55 : decode prog_7_method_21_code 55 = .ok (.getfield 113, 3) := by decide +kernel
theorem dM_say_58 : decode prog_7_method_21_code 58 = .ok (.iadd, 1) := by decide +kernel
theorem dM_say_59 : decode prog_7_method_21_code 59 = .ok (.iaload, 1) := by decide +kernel
theorem dM_say_60 : decode prog_7_method_21_code 60 = .ok (.iastore, 1) := by decide +kernel
theorem dM_say_61 : decode prog_7_method_21_code 61 = .ok (.return_, 1) := by decide +kernel
theorem dM_firstAt_0 : decode prog_7_method_9_code 0 = .ok (.aload_n 0, 1) := by decide +kernel
theorem dM_firstAt_1 : decode prog_7_method_9_code 1 = .ok (.iload_n 1, 1) := by decide +kernel
theorem dM_firstAt_2 : decode prog_7_method_9_code 2 = .ok (.iconst 0, 1) := by decide +kernel
theorem dM_firstAt_3 : decode prog_7_method_9_code 3 = .ok (.invokevirtual 90, 3) := by decide +kernel
theorem dM_firstAt_6 : decode prog_7_method_9_code 6 = .ok (.istore_n 3, 1) := by decide +kernel
theorem dM_firstAt_7 : decode prog_7_method_9_code 7 = .ok (.iload_n 3, 1) := by decide +kernel
theorem dM_firstAt_8 : decode prog_7_method_9_code 8 = .ok (.ifCond .lt 17, 3) := by decide +kernel
theorem dM_firstAt_11 : decode prog_7_method_9_code 11 = .ok (.aload_n 0, 1) := by decide +kernel
theorem dM_firstAt_12 : decode prog_7_method_9_code 12 = .ok (.getfield 13, 3) := by decide +kernel
theorem dM_firstAt_15 : decode prog_7_method_9_code 15 = .ok (.iload_n 3, 1) := by decide +kernel
theorem dM_firstAt_16 : decode prog_7_method_9_code 16 = .ok (.iaload, 1) := by decide +kernel
theorem dM_firstAt_17 : decode prog_7_method_9_code 17 = .ok (.iload_n 2, 1) := by decide +kernel
theorem dM_firstAt_18 : decode prog_7_method_9_code 18 = .ok (.if_icmp .ne 7, 3) := by decide +kernel
theorem dM_firstAt_21 : decode prog_7_method_9_code 21 = .ok (.iload_n 3, 1) := by decide +kernel
theorem dM_firstAt_22 : decode prog_7_method_9_code 22 = .ok (.goto 4, 3) := by decide +kernel
theorem dM_firstAt_25 : decode prog_7_method_9_code 25 = .ok (.iconst (-1), 1) := by decide +kernel
theorem dM_firstAt_26 : decode prog_7_method_9_code 26 = .ok (.ireturn, 1) := by decide +kernel
theorem dM_queue_0 : decode prog_7_method_23_code 0 = .ok (.aload_n 0, 1) := by decide +kernel
theorem dM_queue_1 : decode prog_7_method_23_code 1 = .ok (.getfield 13, 3) := by decide +kernel
theorem dM_queue_4 : decode prog_7_method_23_code 4 = .ok (.iload_n 1, 1) := by decide +kernel
theorem dM_queue_5 : decode prog_7_method_23_code 5 = .ok (.iload_n 3, 1) := by decide +kernel
theorem dM_queue_6 : decode prog_7_method_23_code 6 = .ok (.iastore, 1) := by decide +kernel
theorem dM_queue_7 : decode prog_7_method_23_code 7 = .ok (.aload_n 0, 1) := by decide +kernel
theorem dM_queue_8 : decode prog_7_method_23_code 8 = .ok (.getfield 37, 3) := by decide +kernel
theorem dM_queue_11 : decode prog_7_method_23_code 11 = .ok (.iload_n 1, 1) := by decide +kernel
theorem dM_queue_12 : decode prog_7_method_23_code 12 = .ok (.iload_n 2, 1) := by decide +kernel
theorem dM_queue_13 : decode prog_7_method_23_code 13 = .ok (.iastore, 1) := by decide +kernel
theorem dM_queue_14 : decode prog_7_method_23_code 14 = .ok (.aload_n 0, 1) := by decide +kernel
theorem dM_queue_15 : decode prog_7_method_23_code 15 = .ok (.iload_n 1, 1) := by decide +kernel
theorem dM_queue_16 : decode prog_7_method_23_code 16 = .ok (.invokevirtual 82, 3) := by decide +kernel
theorem dM_queue_19 : decode prog_7_method_23_code 19 = .ok (.return_, 1) := by decide +kernel
theorem dM_pass_0 : decode prog_7_method_22_code 0 = .ok (.aload_n 0, 1) := by decide +kernel
theorem dM_pass_1 : decode prog_7_method_22_code 1 = .ok (.getfield 31, 3) := by decide +kernel
theorem dM_pass_4 : decode prog_7_method_22_code 4 = .ok (.bipush 8, 2) := by decide +kernel
theorem dM_pass_6 : decode prog_7_method_22_code 6 = .ok (.iload_n 2, 1) := by decide +kernel
theorem dM_pass_7 : decode prog_7_method_22_code 7 = .ok (.imul, 1) := by decide +kernel
theorem dM_pass_8 : decode prog_7_method_22_code 8 = .ok (.aload_n 0, 1) := by decide +kernel
theorem dM_pass_9 : decode prog_7_method_22_code 9 = .ok (.getfield 40, 3) := by decide +kernel
theorem dM_pass_12 : decode prog_7_method_22_code 12 = .ok (.iload_n 2, 1) := by decide +kernel
theorem dM_pass_13 : decode prog_7_method_22_code 13 = .ok (.iaload, 1) := by decide +kernel
theorem dM_pass_14 : decode prog_7_method_22_code 14 = .ok (.iadd, 1) := by decide +kernel
theorem dM_pass_15 : decode prog_7_method_22_code 15 = .ok (.aload_n 0, 1) := by decide +kernel
theorem dM_pass_16 : decode prog_7_method_22_code 16 = .ok (.getfield 50, 3) := by decide +kernel
theorem dM_pass_19 : decode prog_7_method_22_code 19 = .ok (.iload_n 1, 1) := by decide +kernel
theorem dM_pass_20 : decode prog_7_method_22_code 20 = .ok (.iaload, 1) := by decide +kernel
theorem dM_pass_21 : decode prog_7_method_22_code 21 = .ok (.iastore, 1) := by decide +kernel
theorem dM_pass_22 : decode prog_7_method_22_code 22 = .ok (.bipush 8, 2) := by decide +kernel
theorem dM_pass_24 : decode prog_7_method_22_code 24 = .ok (.iload_n 1, 1) := by decide +kernel
theorem dM_pass_25 : decode prog_7_method_22_code 25 = .ok (.imul, 1) := by decide +kernel
theorem dM_pass_26 : decode prog_7_method_22_code 26 = .ok (.aload_n 0, 1) := by decide +kernel
theorem dM_pass_27 : decode prog_7_method_22_code 27 = .ok (.getfield 43, 3) := by decide +kernel
theorem dM_pass_30 : decode prog_7_method_22_code 30 = .ok (.iload_n 1, 1) := by decide +kernel
theorem dM_pass_31 : decode prog_7_method_22_code 31 = .ok (.iaload, 1) := by decide +kernel
theorem dM_pass_32 : decode prog_7_method_22_code 32 = .ok (.iadd, 1) := by decide +kernel
theorem dM_pass_33 : decode prog_7_method_22_code 33 = .ok (.istore_n 3, 1) := by decide +kernel
theorem dM_pass_34 : decode prog_7_method_22_code 34 = .ok (.bipush 8, 2) := by decide +kernel
theorem dM_pass_36 : decode prog_7_method_22_code 36 = .ok (.iload_n 2, 1) := by decide +kernel
theorem dM_pass_37 : decode prog_7_method_22_code 37 = .ok (.imul, 1) := by decide +kernel
theorem dM_pass_38 : decode prog_7_method_22_code 38 = .ok (.aload_n 0, 1) := by decide +kernel
theorem dM_pass_39 : decode prog_7_method_22_code 39 = .ok (.getfield 43, 3) := by decide +kernel
theorem dM_pass_42 : decode prog_7_method_22_code 42 = .ok (.iload_n 2, 1) := by decide +kernel
theorem dM_pass_43 : decode prog_7_method_22_code 43 = .ok (.iaload, 1) := by decide +kernel
theorem dM_pass_44 : decode prog_7_method_22_code 44 = .ok (.iadd, 1) := by decide +kernel
theorem dM_pass_45 : decode prog_7_method_22_code 45 = .ok (.istore 4, 2) := by decide +kernel
theorem dM_pass_47 : decode prog_7_method_22_code 47 = .ok (.aload_n 0, 1) := by decide +kernel
theorem dM_pass_48 : decode prog_7_method_22_code 48 = .ok (.getfield 46, 3) := by decide +kernel
theorem dM_pass_51 : decode prog_7_method_22_code 51 = .ok (.iload_n 1, 1) := by decide +kernel
theorem dM_pass_52 : decode prog_7_method_22_code 52 = .ok (.baload, 1) := by decide +kernel
theorem dM_pass_53 : decode prog_7_method_22_code 53 = .ok (.ifCond .eq 26, 3) := by decide +kernel
theorem dM_pass_56 : decode prog_7_method_22_code 56 = .ok (.aload_n 0, 1) := by decide +kernel
theorem dM_pass_57 : decode prog_7_method_22_code 57 = .ok (.getfield 56, 3) := by decide +kernel
theorem dM_pass_60 : decode prog_7_method_22_code 60 = .ok (.iload_n 3, 1) := by decide +kernel
theorem dM_pass_61 : decode prog_7_method_22_code 61 = .ok (.iaload, 1) := by decide +kernel
theorem dM_pass_62 : decode prog_7_method_22_code 62 = .ok (.ifCond .eq 17, 3) := by decide +kernel
theorem dM_pass_65 : decode prog_7_method_22_code 65 = .ok (.aload_n 0, 1) := by decide +kernel
theorem dM_pass_66 : decode prog_7_method_22_code 66 = .ok (.getfield 56, 3) := by decide +kernel
theorem dM_pass_69 : decode prog_7_method_22_code 69 = .ok (.iload 4, 2) := by decide +kernel
theorem dM_pass_71 : decode prog_7_method_22_code 71 = .ok (.iaload, 1) := by decide +kernel
theorem dM_pass_72 : decode prog_7_method_22_code 72 = .ok (.ifCond .ne 7, 3) := by decide +kernel
theorem dM_pass_75 : decode prog_7_method_22_code 75 = .ok (.iconst 1, 1) := by decide +kernel
theorem dM_pass_76 : decode prog_7_method_22_code 76 = .ok (.goto 4, 3) := by decide +kernel
theorem dM_pass_79 : decode prog_7_method_22_code 79 = .ok (.iconst 0, 1) := by decide +kernel
theorem dM_pass_80 : decode prog_7_method_22_code 80 = .ok (.istore 5, 2) := by decide +kernel
theorem dM_pass_82 : decode prog_7_method_22_code 82 = .ok (.iload 5, 2) := by decide +kernel
theorem dM_pass_84 : decode prog_7_method_22_code 84 = .ok (.ifCond .eq 16, 3) := by decide +kernel
theorem dM_pass_87 : decode prog_7_method_22_code 87 = .ok (.aload_n 0, 1) := by decide +kernel
theorem dM_pass_88 : decode prog_7_method_22_code 88 = .ok (.iload 4, 2) := by decide +kernel
theorem dM_pass_90 : decode prog_7_method_22_code 90 = .ok (.iload_n 3, 1) := by decide +kernel
theorem dM_pass_91 : decode prog_7_method_22_code 91 = .ok (.aload_n 0, 1) := by decide +kernel
theorem dM_pass_92 : decode prog_7_method_22_code 92 = .ok (.getfield 62, 3) := by decide +kernel
theorem dM_pass_95 : decode prog_7_method_22_code 95 = .ok (.iload_n 3, 1) := by decide +kernel
theorem dM_pass_96 : decode prog_7_method_22_code 96 = .ok (.iaload, 1) := by decide +kernel
theorem dM_pass_97 : decode prog_7_method_22_code 97 = .ok (.invokevirtual 122, 3) := by decide +kernel
theorem dM_pass_100 : decode prog_7_method_22_code 100 = .ok (.aload_n 0, 1) := by decide +kernel
theorem dM_pass_101 : decode prog_7_method_22_code 101 = .ok (.getfield 31, 3) := by decide +kernel
theorem dM_pass_104 : decode prog_7_method_22_code 104 = .ok (.bipush 8, 2) := by decide +kernel
theorem dM_pass_106 : decode prog_7_method_22_code 106 = .ok (.iload_n 2, 1) := by decide +kernel
theorem dM_pass_107 : decode prog_7_method_22_code 107 = .ok (.imul, 1) := by decide +kernel
theorem dM_pass_108 : decode prog_7_method_22_code 108 = .ok (.bipush 7, 2) := by decide +kernel
theorem dM_pass_110 : decode prog_7_method_22_code 110 = .ok (.iadd, 1) := by decide +kernel
theorem dM_pass_111 : decode prog_7_method_22_code 111 = .ok (.iload 5, 2) := by decide +kernel
theorem dM_pass_113 : decode prog_7_method_22_code 113 = .ok (.ifCond .eq 7, 3) := by decide +kernel
theorem dM_pass_116 : decode prog_7_method_22_code 116 = .ok (.iconst 1, 1) := by decide +kernel
theorem dM_pass_117 : decode prog_7_method_22_code 117 = .ok (.goto 4, 3) := by decide +kernel
theorem dM_pass_120 : decode prog_7_method_22_code 120 = .ok (.iconst 0, 1) := by decide +kernel
theorem dM_pass_121 : decode prog_7_method_22_code 121 = .ok (.iastore, 1) := by decide +kernel
theorem dM_pass_122 : decode prog_7_method_22_code 122 = .ok (.aload_n 0, 1) := by decide +kernel
theorem dM_pass_123 : decode prog_7_method_22_code 123 = .ok (.getfield 53, 3) := by decide +kernel
theorem dM_pass_126 : decode prog_7_method_22_code 126 = .ok (.iload_n 1, 1) := by decide +kernel
theorem dM_pass_127 : decode prog_7_method_22_code 127 = .ok (.baload, 1) := by decide +kernel
theorem dM_pass_128 : decode prog_7_method_22_code 128 = .ok (.ifCond .eq 10, 3) := by decide +kernel
theorem dM_pass_131 : decode prog_7_method_22_code 131 = .ok (.aload_n 0, 1) := by decide +kernel
theorem dM_pass_132 : decode prog_7_method_22_code 132 = .ok (.getfield 28, 3) := by decide +kernel
theorem dM_pass_135 : decode prog_7_method_22_code 135 = .ok (.iload_n 2, 1) := by decide +kernel
theorem dM_pass_136 : decode prog_7_method_22_code 136 = .ok (.iload_n 1, 1) := by decide +kernel
theorem dM_pass_137 : decode prog_7_method_22_code 137 = .ok (.iastore, 1) := by decide +kernel
theorem dM_pass_138 : decode prog_7_method_22_code 138 = .ok (.return_, 1) := by decide +kernel
theorem dM_place_0 : decode prog_7_method_14_code 0 = .ok (.aload_n 0, 1) := by decide +kernel
theorem dM_place_1 : decode prog_7_method_14_code 1 = .ok (.getfield 56, 3) := by decide +kernel
theorem dM_place_4 : decode prog_7_method_14_code 4 = .ok (.iload_n 1, 1) := by decide +kernel
theorem dM_place_5 : decode prog_7_method_14_code 5 = .ok (.aload_n 0, 1) := by decide +kernel
theorem dM_place_6 : decode prog_7_method_14_code 6 = .ok (.getfield 56, 3) := by decide +kernel
theorem dM_place_9 : decode prog_7_method_14_code 9 = .ok (.iload_n 2, 1) := by decide +kernel
theorem dM_place_10 : decode prog_7_method_14_code 10 = .ok (.iaload, 1) := by decide +kernel
theorem dM_place_11 : decode prog_7_method_14_code 11 = .ok (.iastore, 1) := by decide +kernel
theorem dM_place_12 : decode prog_7_method_14_code 12 = .ok (.aload_n 0, 1) := by decide +kernel
theorem dM_place_13 : decode prog_7_method_14_code 13 = .ok (.getfield 59, 3) := by decide +kernel
theorem dM_place_16 : decode prog_7_method_14_code 16 = .ok (.iload_n 1, 1) := by decide +kernel
theorem dM_place_17 : decode prog_7_method_14_code 17 = .ok (.aload_n 0, 1) := by decide +kernel
theorem dM_place_18 : decode prog_7_method_14_code 18 = .ok (.getfield 59, 3) := by decide +kernel
theorem dM_place_21 : decode prog_7_method_14_code 21 = .ok (.iload_n 2, 1) := by decide +kernel
theorem dM_place_22 : decode prog_7_method_14_code 22 = .ok (.iaload, 1) := by decide +kernel
theorem dM_place_23 : decode prog_7_method_14_code 23 = .ok (.iastore, 1) := by decide +kernel
theorem dM_place_24 : decode prog_7_method_14_code 24 = .ok (.aload_n 0, 1) := by decide +kernel
theorem dM_place_25 : decode prog_7_method_14_code 25 = .ok (.getfield 62, 3) := by decide +kernel
theorem dM_place_28 : decode prog_7_method_14_code 28 = .ok (.iload_n 1, 1) := by decide +kernel
theorem dM_place_29 : decode prog_7_method_14_code 29 = .ok (.iload_n 3, 1) := by decide +kernel
theorem dM_place_30 : decode prog_7_method_14_code 30 = .ok (.iastore, 1) := by decide +kernel
theorem dM_place_31 : decode prog_7_method_14_code 31 = .ok (.aload_n 0, 1) := by decide +kernel
theorem dM_place_32 : decode prog_7_method_14_code 32 = .ok (.getfield 65, 3) := by decide +kernel
theorem dM_place_35 : decode prog_7_method_14_code 35 = .ok (.iload_n 1, 1) := by decide +kernel
theorem dM_place_36 : decode prog_7_method_14_code 36 = .ok (.iload_n 2, 1) := by decide +kernel
theorem dM_place_37 : decode prog_7_method_14_code 37 = .ok (.iastore, 1) := by decide +kernel
theorem dM_place_38 : decode prog_7_method_14_code 38 = .ok (.return_, 1) := by decide +kernel
theorem dM_receive_0 : decode prog_7_method_25_code 0 = .ok (.aload_n 0, 1) := by decide +kernel
theorem dM_receive_1 : decode prog_7_method_25_code 1 = .ok (.iload_n 1, 1) := by decide +kernel
theorem dM_receive_2 : decode prog_7_method_25_code 2 = .ok (.invokevirtual 126, 3) := by decide +kernel
theorem dM_receive_5 : decode prog_7_method_25_code 5 = .ok (.aload_n 0, 1) := by decide +kernel
theorem dM_receive_6 : decode prog_7_method_25_code 6 = .ok (.iload_n 2, 1) := by decide +kernel
theorem dM_receive_7 : decode prog_7_method_25_code 7 = .ok (.iconst 2, 1) := by decide +kernel
theorem dM_receive_8 : decode prog_7_method_25_code 8 = .ok (.invokevirtual 129, 3) := by decide +kernel
theorem dM_receive_11 : decode prog_7_method_25_code 11 = .ok (.istore_n 3, 1) := by decide +kernel
theorem dM_receive_12 : decode prog_7_method_25_code 12 = .ok (.iload_n 3, 1) := by decide +kernel
theorem dM_receive_13 : decode prog_7_method_25_code 13 = .ok (.ifCond .ge 11, 3) := by decide +kernel
theorem dM_receive_16 : decode prog_7_method_25_code 16 = .ok (.aload_n 0, 1) := by decide +kernel
theorem dM_receive_17 : decode prog_7_method_25_code 17 = .ok (.iload_n 1, 1) := by decide +kernel
theorem dM_receive_18 : decode prog_7_method_25_code 18 = .ok (.iload_n 2, 1) := by decide +kernel
theorem dM_receive_19 : decode prog_7_method_25_code 19 = .ok (.iconst 4, 1) := by decide +kernel
theorem dM_receive_20 : decode prog_7_method_25_code 20 = .ok (.invokevirtual 132, 3) := by decide +kernel
theorem dM_receive_23 : decode prog_7_method_25_code 23 = .ok (.return_, 1) := by decide +kernel
theorem dM_receive_24 : decode prog_7_method_25_code 24 = .ok (.aload_n 0, 1) := by decide +kernel
theorem dM_receive_25 : decode prog_7_method_25_code 25 = .ok (.iload_n 3, 1) := by decide +kernel
theorem dM_receive_26 : decode prog_7_method_25_code 26 = .ok (.iload_n 1, 1) := by decide +kernel
theorem dM_receive_27 : decode prog_7_method_25_code 27 = .ok (.invokevirtual 135, 3) := by decide +kernel
theorem dM_receive_30 : decode prog_7_method_25_code 30 = .ok (.aload_n 0, 1) := by decide +kernel
theorem dM_receive_31 : decode prog_7_method_25_code 31 = .ok (.getfield 53, 3) := by decide +kernel
theorem dM_receive_34 : decode prog_7_method_25_code 34 = .ok (.iload_n 3, 1) := by decide +kernel
theorem dM_receive_35 : decode prog_7_method_25_code 35 = .ok (.baload, 1) := by decide +kernel
theorem dM_receive_36 : decode prog_7_method_25_code 36 = .ok (.ifCond .eq 13, 3) := by decide +kernel
theorem dM_receive_39 : decode prog_7_method_25_code 39 = .ok (.aload_n 0, 1) := by decide +kernel
theorem dM_receive_40 : decode prog_7_method_25_code 40 = .ok (.getfield 13, 3) := by decide +kernel
theorem dM_receive_43 : decode prog_7_method_25_code 43 = .ok (.iload_n 3, 1) := by decide +kernel
theorem dM_receive_44 : decode prog_7_method_25_code 44 = .ok (.iconst 3, 1) := by decide +kernel
theorem dM_receive_45 : decode prog_7_method_25_code 45 = .ok (.iastore, 1) := by decide +kernel
theorem dM_receive_46 : decode prog_7_method_25_code 46 = .ok (.goto 8, 3) := by decide +kernel
theorem dM_receive_49 : decode prog_7_method_25_code 49 = .ok (.aload_n 0, 1) := by decide +kernel
theorem dM_receive_50 : decode prog_7_method_25_code 50 = .ok (.iload_n 3, 1) := by decide +kernel
theorem dM_receive_51 : decode prog_7_method_25_code 51 = .ok (.invokevirtual 101, 3) := by decide +kernel
theorem dM_receive_54 : decode prog_7_method_25_code 54 = .ok (.return_, 1) := by decide +kernel
theorem dM_answer_0 : decode prog_7_method_26_code 0 = .ok (.aload_n 0, 1) := by decide +kernel
theorem dM_answer_1 : decode prog_7_method_26_code 1 = .ok (.getfield 28, 3) := by decide +kernel
theorem dM_answer_4 : decode prog_7_method_26_code 4 = .ok (.iload_n 1, 1) := by decide +kernel
theorem dM_answer_5 : decode prog_7_method_26_code 5 = .ok (.iaload, 1) := by decide +kernel
theorem dM_answer_6 : decode prog_7_method_26_code 6 = .ok (.istore_n 2, 1) := by decide +kernel
theorem dM_answer_7 : decode prog_7_method_26_code 7 = .ok (.iload_n 2, 1) := by decide +kernel
theorem dM_answer_8 : decode prog_7_method_26_code 8 = .ok (.ifCond .lt 45, 3) := by decide +kernel
theorem dM_answer_11 : decode prog_7_method_26_code 11 = .ok (.aload_n 0, 1) := by decide +kernel
theorem dM_answer_12 : decode prog_7_method_26_code 12 = .ok (.getfield 31, 3) := by decide +kernel
theorem dM_answer_15 : decode prog_7_method_26_code 15 = .ok (.bipush 8, 2) := by decide +kernel
theorem dM_answer_17 : decode prog_7_method_26_code 17 = .ok (.iload_n 2, 1) := by decide +kernel
theorem dM_answer_18 : decode prog_7_method_26_code 18 = .ok (.imul, 1) := by decide +kernel
theorem dM_answer_19 : decode prog_7_method_26_code 19 = .ok (.aload_n 0, 1) := by decide +kernel
theorem dM_answer_20 : decode prog_7_method_26_code 20 = .ok (.getfield 40, 3) := by decide +kernel
theorem dM_answer_23 : decode prog_7_method_26_code 23 = .ok (.iload_n 2, 1) := by decide +kernel
theorem dM_answer_24 : decode prog_7_method_26_code 24 = .ok (.iaload, 1) := by decide +kernel
theorem dM_answer_25 : decode prog_7_method_26_code 25 = .ok (.iadd, 1) := by decide +kernel
theorem dM_answer_26 : decode prog_7_method_26_code 26 = .ok (.aload_n 0, 1) := by decide +kernel
theorem dM_answer_27 : decode prog_7_method_26_code 27 = .ok (.getfield 31, 3) := by decide +kernel
theorem dM_answer_30 : decode prog_7_method_26_code 30 = .ok (.bipush 8, 2) := by decide +kernel
theorem dM_answer_32 : decode prog_7_method_26_code 32 = .ok (.iload_n 1, 1) := by decide +kernel
theorem dM_answer_33 : decode prog_7_method_26_code 33 = .ok (.imul, 1) := by decide +kernel
theorem dM_answer_34 : decode prog_7_method_26_code 34 = .ok (.aload_n 0, 1) := by decide +kernel
theorem dM_answer_35 : decode prog_7_method_26_code 35 = .ok (.getfield 113, 3) := by decide +kernel
theorem dM_answer_38 : decode prog_7_method_26_code 38 = .ok (.iadd, 1) := by decide +kernel
theorem dM_answer_39 : decode prog_7_method_26_code 39 = .ok (.iaload, 1) := by decide +kernel
theorem dM_answer_40 : decode prog_7_method_26_code 40 = .ok (.iastore, 1) := by decide +kernel
theorem dM_answer_41 : decode prog_7_method_26_code 41 = .ok (.aload_n 0, 1) := by decide +kernel
theorem dM_answer_42 : decode prog_7_method_26_code 42 = .ok (.iload_n 2, 1) := by decide +kernel
theorem dM_answer_43 : decode prog_7_method_26_code 43 = .ok (.invokevirtual 101, 3) := by decide +kernel
theorem dM_answer_46 : decode prog_7_method_26_code 46 = .ok (.aload_n 0, 1) := by decide +kernel
theorem dM_answer_47 : decode prog_7_method_26_code 47 = .ok (.getfield 28, 3) := by decide +kernel
theorem dM_answer_50 : decode prog_7_method_26_code 50 = .ok (.iload_n 1, 1) := by decide +kernel
theorem dM_answer_51 : decode prog_7_method_26_code 51 = .ok (.iconst (-1), 1) := by decide +kernel
theorem dM_answer_52 : decode prog_7_method_26_code 52 = .ok (.iastore, 1) := by decide +kernel
theorem dM_answer_53 : decode prog_7_method_26_code 53 = .ok (.return_, 1) := by decide +kernel
theorem dM_revoke_0 : decode prog_7_method_13_code 0 = .ok (.aload_n 0, 1) := by decide +kernel
theorem dM_revoke_1 : decode prog_7_method_13_code 1 = .ok (.iload_n 1, 1) := by decide +kernel
theorem dM_revoke_2 : decode prog_7_method_13_code 2 = .ok (.invokevirtual 97, 3) := by decide +kernel
theorem dM_revoke_5 : decode prog_7_method_13_code 5 = .ok (.istore_n 2, 1) := by decide +kernel
theorem dM_revoke_6 : decode prog_7_method_13_code 6 = .ok (.iload_n 2, 1) := by decide +kernel
theorem dM_revoke_7 : decode prog_7_method_13_code 7 = .ok (.ifCond .le 66, 3) := by decide +kernel
theorem dM_revoke_10 : decode prog_7_method_13_code 10 = .ok (.iconst 0, 1) := by decide +kernel
theorem dM_revoke_11 : decode prog_7_method_13_code 11 = .ok (.istore_n 3, 1) := by decide +kernel
theorem dM_revoke_12 : decode prog_7_method_13_code 12 = .ok (.iload_n 3, 1) := by decide +kernel
theorem dM_revoke_13 : decode prog_7_method_13_code 13 = .ok (.bipush 48, 2) := by decide +kernel
theorem dM_revoke_15 : decode prog_7_method_13_code 15 = .ok (.if_icmp .ge 49, 3) := by decide +kernel
theorem dM_revoke_18 : decode prog_7_method_13_code 18 = .ok (.aload_n 0, 1) := by decide +kernel
theorem dM_revoke_19 : decode prog_7_method_13_code 19 = .ok (.getfield 56, 3) := by decide +kernel
theorem dM_revoke_22 : decode prog_7_method_13_code 22 = .ok (.iload_n 3, 1) := by decide +kernel
theorem dM_revoke_23 : decode prog_7_method_13_code 23 = .ok (.iaload, 1) := by decide +kernel
theorem dM_revoke_24 : decode prog_7_method_13_code 24 = .ok (.ifCond .eq 34, 3) := by decide +kernel
theorem dM_revoke_27 : decode prog_7_method_13_code 27 = .ok (.aload_n 0, 1) := by decide +kernel
theorem dM_revoke_28 : decode prog_7_method_13_code 28 = .ok (.iload_n 3, 1) := by decide +kernel
theorem dM_revoke_29 : decode prog_7_method_13_code 29 = .ok (.iload_n 1, 1) := by decide +kernel
theorem dM_revoke_30 : decode prog_7_method_13_code 30 = .ok (.invokevirtual 94, 3) := by decide +kernel
theorem dM_revoke_33 : decode prog_7_method_13_code 33 = .ok (.ifCond .eq 25, 3) := by decide +kernel
theorem dM_revoke_36 : decode prog_7_method_13_code 36 = .ok (.aload_n 0, 1) := by decide +kernel
theorem dM_revoke_37 : decode prog_7_method_13_code 37 = .ok (.iload_n 3, 1) := by decide +kernel
theorem dM_revoke_38 : decode prog_7_method_13_code 38 = .ok (.invokevirtual 97, 3) := by decide +kernel
theorem dM_revoke_41 : decode prog_7_method_13_code 41 = .ok (.ifCond .ne 17, 3) := by decide +kernel
theorem dM_revoke_44 : decode prog_7_method_13_code 44 = .ok (.aload_n 0, 1) := by decide +kernel
theorem dM_revoke_45 : decode prog_7_method_13_code 45 = .ok (.getfield 56, 3) := by decide +kernel
theorem dM_revoke_48 : decode prog_7_method_13_code 48 = .ok (.iload_n 3, 1) := by decide +kernel
theorem dM_revoke_49 : decode prog_7_method_13_code 49 = .ok (.iconst 0, 1) := by decide +kernel
theorem dM_revoke_50 : decode prog_7_method_13_code 50 = .ok (.iastore, 1) := by decide +kernel
theorem dM_revoke_51 : decode prog_7_method_13_code 51 = .ok (.aload_n 0, 1) := by decide +kernel
theorem dM_revoke_52 : decode prog_7_method_13_code 52 = .ok (.getfield 65, 3) := by decide +kernel
theorem dM_revoke_55 : decode prog_7_method_13_code 55 = .ok (.iload_n 3, 1) := by decide +kernel
theorem dM_revoke_56 : decode prog_7_method_13_code 56 = .ok (.iconst (-1), 1) := by decide +kernel
theorem dM_revoke_57 : decode prog_7_method_13_code 57 = .ok (.iastore, 1) := by decide +kernel
theorem dM_revoke_58 : decode prog_7_method_13_code 58 = .ok (.iinc 3 1, 3) := by decide +kernel
theorem dM_revoke_61 : decode prog_7_method_13_code 61 = .ok (.goto (-49), 3) := by decide +kernel
theorem dM_revoke_64 : decode prog_7_method_13_code 64 = .ok (.aload_n 0, 1) := by decide +kernel
theorem dM_revoke_65 : decode prog_7_method_13_code 65 = .ok (.iload_n 1, 1) := by decide +kernel
theorem dM_revoke_66 : decode prog_7_method_13_code 66 = .ok (.invokevirtual 97, 3) := by decide +kernel
theorem dM_revoke_69 : decode prog_7_method_13_code 69 = .ok (.istore_n 2, 1) := by decide +kernel
theorem dM_revoke_70 : decode prog_7_method_13_code 70 = .ok (.goto (-64), 3) := by decide +kernel
theorem dM_revoke_73 : decode prog_7_method_13_code 73 = .ok (.return_, 1) := by decide +kernel
theorem dM_countBelow_0 : decode prog_7_method_12_code 0 = .ok (.iconst 0, 1) := by decide +kernel
theorem dM_countBelow_1 : decode prog_7_method_12_code 1 = .ok (.istore_n 2, 1) := by decide +kernel
theorem dM_countBelow_2 : decode prog_7_method_12_code 2 = .ok (.iconst 0, 1) := by decide +kernel
theorem dM_countBelow_3 : decode prog_7_method_12_code 3 = .ok (.istore_n 3, 1) := by decide +kernel
theorem dM_countBelow_4 : decode prog_7_method_12_code 4 = .ok (.iload_n 3, 1) := by decide +kernel
theorem dM_countBelow_5 : decode prog_7_method_12_code 5 = .ok (.bipush 48, 2) := by decide +kernel
theorem dM_countBelow_7 : decode prog_7_method_12_code 7 = .ok (.if_icmp .ge 35, 3) := by decide +kernel
theorem dM_countBelow_10 : decode prog_7_method_12_code 10 = .ok (.aload_n 0, 1) := by decide +kernel
theorem dM_countBelow_11 : decode prog_7_method_12_code 11 = .ok (.getfield 56, 3) := by decide +kernel
theorem dM_countBelow_14 : decode prog_7_method_12_code 14 = .ok (.iload_n 3, 1) := by decide +kernel
theorem dM_countBelow_15 : decode prog_7_method_12_code 15 = .ok (.iaload, 1) := by decide +kernel
theorem dM_countBelow_16 : decode prog_7_method_12_code 16 = .ok (.ifCond .eq 18, 3) := by decide +kernel
theorem dM_countBelow_19 : decode prog_7_method_12_code 19 = .ok (.aload_n 0, 1) := by decide +kernel
theorem dM_countBelow_20 : decode prog_7_method_12_code 20 = .ok (.iload_n 3, 1) := by decide +kernel
theorem dM_countBelow_21 : decode prog_7_method_12_code 21 = .ok (.iload_n 1, 1) := by decide +kernel
theorem dM_countBelow_22 : decode prog_7_method_12_code 22 = .ok (.invokevirtual 94, 3) := by decide +kernel
theorem dM_countBelow_25 : decode prog_7_method_12_code 25 = .ok (.ifCond .eq 9, 3) := by decide +kernel
theorem dM_countBelow_28 : decode prog_7_method_12_code 28 = .ok (.iload_n 2, 1) := by decide +kernel
theorem dM_countBelow_29 : decode prog_7_method_12_code 29 = .ok (.iconst 1, 1) := by decide +kernel
theorem dM_countBelow_30 : decode prog_7_method_12_code 30 = .ok (.iadd, 1) := by decide +kernel
theorem dM_countBelow_31 : decode prog_7_method_12_code 31 = .ok (.goto 4, 3) := by decide +kernel
theorem dM_countBelow_34 : decode prog_7_method_12_code 34 = .ok (.iload_n 2, 1) := by decide +kernel
theorem dM_countBelow_35 : decode prog_7_method_12_code 35 = .ok (.istore_n 2, 1) := by decide +kernel
theorem dM_countBelow_36 : decode prog_7_method_12_code 36 = .ok (.iinc 3 1, 3) := by decide +kernel
theorem dM_countBelow_39 : decode prog_7_method_12_code 39 = .ok (.goto (-35), 3) := by decide +kernel
theorem dM_countBelow_42 : decode prog_7_method_12_code 42 = .ok (.iload_n 2, 1) := by decide +kernel
theorem dM_countBelow_43 : decode prog_7_method_12_code 43 = .ok (.ireturn, 1) := by decide +kernel
theorem dM_descends_0 : decode prog_7_method_11_code 0 = .ok (.aload_n 0, 1) := by decide +kernel
theorem dM_descends_1 : decode prog_7_method_11_code 1 = .ok (.getfield 65, 3) := by decide +kernel
theorem dM_descends_4 : decode prog_7_method_11_code 4 = .ok (.iload_n 1, 1) := by decide +kernel
theorem dM_descends_5 : decode prog_7_method_11_code 5 = .ok (.iaload, 1) := by decide +kernel
theorem dM_descends_6 : decode prog_7_method_11_code 6 = .ok (.istore_n 3, 1) := by decide +kernel
theorem dM_descends_7 : decode prog_7_method_11_code 7 = .ok (.iload_n 3, 1) := by decide +kernel
theorem dM_descends_8 : decode prog_7_method_11_code 8 = .ok (.ifCond .lt 18, 3) := by decide +kernel
theorem dM_descends_11 : decode prog_7_method_11_code 11 = .ok (.iload_n 3, 1) := by decide +kernel
theorem dM_descends_12 : decode prog_7_method_11_code 12 = .ok (.iload_n 2, 1) := by decide +kernel
theorem dM_descends_13 : decode prog_7_method_11_code 13 = .ok (.if_icmp .eq 13, 3) := by decide +kernel
theorem dM_descends_16 : decode prog_7_method_11_code 16 = .ok (.aload_n 0, 1) := by decide +kernel
theorem dM_descends_17 : decode prog_7_method_11_code 17 = .ok (.getfield 65, 3) := by decide +kernel
theorem dM_descends_20 : decode prog_7_method_11_code 20 = .ok (.iload_n 3, 1) := by decide +kernel
theorem dM_descends_21 : decode prog_7_method_11_code 21 = .ok (.iaload, 1) := by decide +kernel
theorem dM_descends_22 : decode prog_7_method_11_code 22 = .ok (.istore_n 3, 1) := by decide +kernel
theorem dM_descends_23 : decode prog_7_method_11_code 23 = .ok (.goto (-16), 3) := by decide +kernel
theorem dM_descends_26 : decode prog_7_method_11_code 26 = .ok (.aload_n 0, 1) := by decide +kernel
theorem dM_descends_27 : decode prog_7_method_11_code 27 = .ok (.getfield 56, 3) := by decide +kernel
theorem dM_descends_30 : decode prog_7_method_11_code 30 = .ok (.iload_n 1, 1) := by decide +kernel
theorem dM_descends_31 : decode prog_7_method_11_code 31 = .ok (.iaload, 1) := by decide +kernel
theorem dM_descends_32 : decode prog_7_method_11_code 32 = .ok (.ifCond .eq 12, 3) := by decide +kernel
theorem dM_descends_35 : decode prog_7_method_11_code 35 = .ok (.iload_n 3, 1) := by decide +kernel
theorem dM_descends_36 : decode prog_7_method_11_code 36 = .ok (.iload_n 2, 1) := by decide +kernel
theorem dM_descends_37 : decode prog_7_method_11_code 37 = .ok (.if_icmp .ne 7, 3) := by decide +kernel
theorem dM_descends_40 : decode prog_7_method_11_code 40 = .ok (.iconst 1, 1) := by decide +kernel
theorem dM_descends_41 : decode prog_7_method_11_code 41 = .ok (.goto 4, 3) := by decide +kernel
theorem dM_descends_44 : decode prog_7_method_11_code 44 = .ok (.iconst 0, 1) := by decide +kernel
theorem dM_descends_45 : decode prog_7_method_11_code 45 = .ok (.ireturn, 1) := by decide +kernel
theorem dM_state_0 : decode prog_7_method_37_code 0 = .ok (.iload_n 1, 1) := by decide +kernel
theorem dM_state_1 : decode prog_7_method_37_code 1 = .ok (.invokestatic 75, 3) := by decide +kernel
theorem dM_state_4 : decode prog_7_method_37_code 4 = .ok (.ifCond .eq 12, 3) := by decide +kernel
theorem dM_state_7 : decode prog_7_method_37_code 7 = .ok (.aload_n 0, 1) := by decide +kernel
theorem dM_state_8 : decode prog_7_method_37_code 8 = .ok (.getfield 13, 3) := by decide +kernel
theorem dM_state_11 : decode prog_7_method_37_code 11 = .ok (.iload_n 1, 1) := by decide +kernel
theorem dM_state_12 : decode prog_7_method_37_code 12 = .ok (.iaload, 1) := by decide +kernel
theorem dM_state_13 : decode prog_7_method_37_code 13 = .ok (.goto 4, 3) := by decide +kernel
theorem dM_state_16 : decode prog_7_method_37_code 16 = .ok (.iconst (-1), 1) := by decide +kernel
theorem dM_state_17 : decode prog_7_method_37_code 17 = .ok (.ireturn, 1) := by decide +kernel
theorem dM_fault_0 : decode prog_7_method_38_code 0 = .ok (.iload_n 1, 1) := by decide +kernel
theorem dM_fault_1 : decode prog_7_method_38_code 1 = .ok (.invokestatic 75, 3) := by decide +kernel
theorem dM_fault_4 : decode prog_7_method_38_code 4 = .ok (.ifCond .eq 22, 3) := by decide +kernel
theorem dM_fault_7 : decode prog_7_method_38_code 7 = .ok (.aload_n 0, 1) := by decide +kernel
theorem dM_fault_8 : decode prog_7_method_38_code 8 = .ok (.getfield 13, 3) := by decide +kernel
theorem dM_fault_11 : decode prog_7_method_38_code 11 = .ok (.iload_n 1, 1) := by decide +kernel
theorem dM_fault_12 : decode prog_7_method_38_code 12 = .ok (.iaload, 1) := by decide +kernel
theorem dM_fault_13 : decode prog_7_method_38_code 13 = .ok (.iconst 5, 1) := by decide +kernel
theorem dM_fault_14 : decode prog_7_method_38_code 14 = .ok (.if_icmp .ne 12, 3) := by decide +kernel
theorem dM_fault_17 : decode prog_7_method_38_code 17 = .ok (.aload_n 0, 1) := by decide +kernel
theorem dM_fault_18 : decode prog_7_method_38_code 18 = .ok (.getfield 16, 3) := by decide +kernel
theorem dM_fault_21 : decode prog_7_method_38_code 21 = .ok (.iload_n 1, 1) := by decide +kernel
theorem dM_fault_22 : decode prog_7_method_38_code 22 = .ok (.iaload, 1) := by decide +kernel
theorem dM_fault_23 : decode prog_7_method_38_code 23 = .ok (.goto 4, 3) := by decide +kernel
theorem dM_fault_26 : decode prog_7_method_38_code 26 = .ok (.iconst 0, 1) := by decide +kernel
theorem dM_fault_27 : decode prog_7_method_38_code 27 = .ok (.ireturn, 1) := by decide +kernel
theorem dM_register_0 : decode prog_7_method_39_code 0 = .ok (.aload_n 0, 1) := by decide +kernel
theorem dM_register_1 : decode prog_7_method_39_code 1 = .ok (.iload_n 1, 1) := by decide +kernel
theorem dM_register_2 : decode prog_7_method_39_code 2 = .ok (.invokevirtual 104, 3) := by decide +kernel
theorem dM_register_5 : decode prog_7_method_39_code 5 = .ok (.ifCond .eq 24, 3) := by decide +kernel
theorem dM_register_8 : decode prog_7_method_39_code 8 = .ok (.iload_n 2, 1) := by decide +kernel
theorem dM_register_9 : decode prog_7_method_39_code 9 = .ok (.invokestatic 107, 3) := by decide +kernel
theorem dM_register_12 : decode prog_7_method_39_code 12 = .ok (.ifCond .eq 17, 3) := by decide +kernel
theorem dM_register_15 : decode prog_7_method_39_code 15 = .ok (.aload_n 0, 1) := by decide +kernel
theorem dM_register_16 : decode prog_7_method_39_code 16 = .ok (.getfield 31, 3) := by decide +kernel
theorem dM_register_19 : decode prog_7_method_39_code 19 = .ok (.bipush 8, 2) := by decide +kernel
theorem dM_register_21 : decode prog_7_method_39_code 21 = .ok (.iload_n 1, 1) := by decide +kernel
theorem dM_register_22 : decode prog_7_method_39_code 22 = .ok (.imul, 1) := by decide +kernel
theorem dM_register_23 : decode prog_7_method_39_code 23 = .ok (.iload_n 2, 1) := by decide +kernel
theorem dM_register_24 : decode prog_7_method_39_code 24 = .ok (.iadd, 1) := by decide +kernel
theorem dM_register_25 : decode prog_7_method_39_code 25 = .ok (.iaload, 1) := by decide +kernel
theorem dM_register_26 : decode prog_7_method_39_code 26 = .ok (.goto 4, 3) := by decide +kernel
theorem dM_register_29 : decode prog_7_method_39_code 29 = .ok (.iconst 0, 1) := by decide +kernel
theorem dM_register_30 : decode prog_7_method_39_code 30 = .ok (.ireturn, 1) := by decide +kernel
theorem dM_counter_0 : decode prog_7_method_40_code 0 = .ok (.aload_n 0, 1) := by decide +kernel
theorem dM_counter_1 : decode prog_7_method_40_code 1 = .ok (.iload_n 1, 1) := by decide +kernel
theorem dM_counter_2 : decode prog_7_method_40_code 2 = .ok (.invokevirtual 104, 3) := by decide +kernel
theorem dM_counter_5 : decode prog_7_method_40_code 5 = .ok (.ifCond .eq 12, 3) := by decide +kernel
theorem dM_counter_8 : decode prog_7_method_40_code 8 = .ok (.aload_n 0, 1) := by decide +kernel
theorem dM_counter_9 : decode prog_7_method_40_code 9 = .ok (.getfield 19, 3) := by decide +kernel
theorem dM_counter_12 : decode prog_7_method_40_code 12 = .ok (.iload_n 1, 1) := by decide +kernel
theorem dM_counter_13 : decode prog_7_method_40_code 13 = .ok (.iaload, 1) := by decide +kernel
theorem dM_counter_14 : decode prog_7_method_40_code 14 = .ok (.goto 4, 3) := by decide +kernel
theorem dM_counter_17 : decode prog_7_method_40_code 17 = .ok (.iconst (-1), 1) := by decide +kernel
theorem dM_counter_18 : decode prog_7_method_40_code 18 = .ok (.ireturn, 1) := by decide +kernel
theorem dM_caller_0 : decode prog_7_method_41_code 0 = .ok (.aload_n 0, 1) := by decide +kernel
theorem dM_caller_1 : decode prog_7_method_41_code 1 = .ok (.iload_n 1, 1) := by decide +kernel
theorem dM_caller_2 : decode prog_7_method_41_code 2 = .ok (.invokevirtual 104, 3) := by decide +kernel
theorem dM_caller_5 : decode prog_7_method_41_code 5 = .ok (.ifCond .eq 12, 3) := by decide +kernel
theorem dM_caller_8 : decode prog_7_method_41_code 8 = .ok (.aload_n 0, 1) := by decide +kernel
theorem dM_caller_9 : decode prog_7_method_41_code 9 = .ok (.getfield 28, 3) := by decide +kernel
theorem dM_caller_12 : decode prog_7_method_41_code 12 = .ok (.iload_n 1, 1) := by decide +kernel
theorem dM_caller_13 : decode prog_7_method_41_code 13 = .ok (.iaload, 1) := by decide +kernel
theorem dM_caller_14 : decode prog_7_method_41_code 14 = .ok (.goto 4, 3) := by decide +kernel
theorem dM_caller_17 : decode prog_7_method_41_code 17 = .ok (.iconst (-1), 1) := by decide +kernel
theorem dM_caller_18 : decode prog_7_method_41_code 18 = .ok (.ireturn, 1) := by decide +kernel
theorem dM_capability_0 : decode prog_7_method_43_code 0 = .ok (.aload_n 0, 1) := by decide +kernel
theorem dM_capability_1 : decode prog_7_method_43_code 1 = .ok (.iload_n 1, 1) := by decide +kernel
theorem dM_capability_2 : decode prog_7_method_43_code 2 = .ok (.iload_n 2, 1) := by decide +kernel
theorem dM_capability_3 : decode prog_7_method_43_code 3 = .ok (.invokevirtual 193, 3) := by decide +kernel
theorem dM_capability_6 : decode prog_7_method_43_code 6 = .ok (.ifCond .eq 12, 3) := by decide +kernel
theorem dM_capability_9 : decode prog_7_method_43_code 9 = .ok (.iload_n 3, 1) := by decide +kernel
theorem dM_capability_10 : decode prog_7_method_43_code 10 = .ok (.ifCond .lt 8, 3) := by decide +kernel
theorem dM_capability_13 : decode prog_7_method_43_code 13 = .ok (.iload_n 3, 1) := by decide +kernel
theorem dM_capability_14 : decode prog_7_method_43_code 14 = .ok (.iconst 3, 1) := by decide +kernel
theorem dM_capability_15 : decode prog_7_method_43_code 15 = .ok (.if_icmp .le 5, 3) := by decide +kernel
theorem dM_capability_18 : decode prog_7_method_43_code 18 = .ok (.iconst (-1), 1) := by decide +kernel
theorem dM_capability_19 : decode prog_7_method_43_code 19 = .ok (.ireturn, 1) := by decide +kernel
theorem dM_capability_20 : decode prog_7_method_43_code 20 = .ok (.bipush 8, 2) := by decide +kernel
theorem dM_capability_22 : decode prog_7_method_43_code 22 = .ok (.iload_n 1, 1) := by decide +kernel
theorem dM_capability_23 : decode prog_7_method_43_code 23 = .ok (.imul, 1) := by decide +kernel
theorem dM_capability_24 : decode prog_7_method_43_code 24 = .ok (.iload_n 2, 1) := by decide +kernel
theorem dM_capability_25 : decode prog_7_method_43_code 25 = .ok (.iadd, 1) := by decide +kernel
theorem dM_capability_26 : decode prog_7_method_43_code 26 = .ok (.istore 4, 2) := by decide +kernel
theorem dM_capability_28 : decode prog_7_method_43_code 28 = .ok (.iload_n 3, 1) := by decide +kernel
theorem dM_capability_29 : decode prog_7_method_43_code 29 = .ok (.ifCond .ne 13, 3) := by decide +kernel
theorem dM_capability_32 : decode prog_7_method_43_code 32 = .ok (.aload_n 0, 1) := by decide +kernel
theorem dM_capability_33 : decode prog_7_method_43_code 33 = .ok (.getfield 56, 3) := by decide +kernel
theorem dM_capability_36 : decode prog_7_method_43_code 36 = .ok (.iload 4, 2) := by decide +kernel
theorem dM_capability_38 : decode prog_7_method_43_code 38 = .ok (.iaload, 1) := by decide +kernel
theorem dM_capability_39 : decode prog_7_method_43_code 39 = .ok (.goto 40, 3) := by decide +kernel
theorem dM_capability_42 : decode prog_7_method_43_code 42 = .ok (.iload_n 3, 1) := by decide +kernel
theorem dM_capability_43 : decode prog_7_method_43_code 43 = .ok (.iconst 1, 1) := by decide +kernel
theorem dM_capability_44 : decode prog_7_method_43_code 44 = .ok (.if_icmp .ne 13, 3) := by decide +kernel
theorem dM_capability_47 : decode prog_7_method_43_code 47 = .ok (.aload_n 0, 1) := by decide +kernel
theorem dM_capability_48 : decode prog_7_method_43_code 48 = .ok (.getfield 59, 3) := by decide +kernel
theorem dM_capability_51 : decode prog_7_method_43_code 51 = .ok (.iload 4, 2) := by decide +kernel
theorem dM_capability_53 : decode prog_7_method_43_code 53 = .ok (.iaload, 1) := by decide +kernel
theorem dM_capability_54 : decode prog_7_method_43_code 54 = .ok (.goto 25, 3) := by decide +kernel
theorem dM_capability_57 : decode prog_7_method_43_code 57 = .ok (.iload_n 3, 1) := by decide +kernel
theorem dM_capability_58 : decode prog_7_method_43_code 58 = .ok (.iconst 2, 1) := by decide +kernel
theorem dM_capability_59 : decode prog_7_method_43_code 59 = .ok (.if_icmp .ne 13, 3) := by decide +kernel
theorem dM_capability_62 : decode prog_7_method_43_code 62 = .ok (.aload_n 0, 1) := by decide +kernel
theorem dM_capability_63 : decode prog_7_method_43_code 63 = .ok (.getfield 62, 3) := by decide +kernel
theorem dM_capability_66 : decode prog_7_method_43_code 66 = .ok (.iload 4, 2) := by decide +kernel
theorem dM_capability_68 : decode prog_7_method_43_code 68 = .ok (.iaload, 1) := by decide +kernel
theorem dM_capability_69 : decode prog_7_method_43_code 69 = .ok (.goto 10, 3) := by decide +kernel
theorem dM_capability_72 : decode prog_7_method_43_code 72 = .ok (.aload_n 0, 1) := by decide +kernel
theorem dM_capability_73 : decode prog_7_method_43_code 73 = .ok (.getfield 65, 3) := by decide +kernel
theorem dM_capability_76 : decode prog_7_method_43_code 76 = .ok (.iload 4, 2) := by decide +kernel
theorem dM_capability_78 : decode prog_7_method_43_code 78 = .ok (.iaload, 1) := by decide +kernel
theorem dM_capability_79 : decode prog_7_method_43_code 79 = .ok (.ireturn, 1) := by decide +kernel
theorem dM_isCapability_0 : decode prog_7_method_42_code 0 = .ok (.iload_n 1, 1) := by decide +kernel
theorem dM_isCapability_1 : decode prog_7_method_42_code 1 = .ok (.invokestatic 75, 3) := by decide +kernel
theorem dM_isCapability_4 : decode prog_7_method_42_code 4 = .ok (.ifCond .eq 37, 3) := by decide +kernel
theorem dM_isCapability_7 : decode prog_7_method_42_code 7 = .ok (.iload_n 2, 1) := by decide +kernel
theorem dM_isCapability_8 : decode prog_7_method_42_code 8 = .ok (.invokestatic 107, 3) := by decide +kernel
theorem dM_isCapability_11 : decode prog_7_method_42_code 11 = .ok (.ifCond .eq 30, 3) := by decide +kernel
theorem dM_isCapability_14 : decode prog_7_method_42_code 14 = .ok (.aload_n 0, 1) := by decide +kernel
theorem dM_isCapability_15 : decode prog_7_method_42_code 15 = .ok (.getfield 13, 3) := by decide +kernel
theorem dM_isCapability_18 : decode prog_7_method_42_code 18 = .ok (.iload_n 1, 1) := by decide +kernel
theorem dM_isCapability_19 : decode prog_7_method_42_code 19 = .ok (.iaload, 1) := by decide +kernel
theorem dM_isCapability_20 : decode prog_7_method_42_code 20 = .ok (.ifCond .eq 21, 3) := by decide +kernel
theorem dM_isCapability_23 : decode prog_7_method_42_code 23 = .ok (.aload_n 0, 1) := by decide +kernel
theorem dM_isCapability_24 : decode prog_7_method_42_code 24 = .ok (.getfield 56, 3) := by decide +kernel
theorem dM_isCapability_27 : decode prog_7_method_42_code 27 = .ok (.bipush 8, 2) := by decide +kernel
theorem dM_isCapability_29 : decode prog_7_method_42_code 29 = .ok (.iload_n 1, 1) := by decide +kernel
theorem dM_isCapability_30 : decode prog_7_method_42_code 30 = .ok (.imul, 1) := by decide +kernel
theorem dM_isCapability_31 : decode prog_7_method_42_code 31 = .ok (.iload_n 2, 1) := by decide +kernel
theorem dM_isCapability_32 : decode prog_7_method_42_code 32 = .ok (.iadd, 1) := by decide +kernel
theorem dM_isCapability_33 : decode prog_7_method_42_code 33 = .ok (.iaload, 1) := by decide +kernel
theorem dM_isCapability_34 : decode prog_7_method_42_code 34 = .ok (.ifCond .eq 7, 3) := by decide +kernel
theorem dM_isCapability_37 : decode prog_7_method_42_code 37 = .ok (.iconst 1, 1) := by decide +kernel
theorem dM_isCapability_38 : decode prog_7_method_42_code 38 = .ok (.goto 4, 3) := by decide +kernel
theorem dM_isCapability_41 : decode prog_7_method_42_code 41 = .ok (.iconst 0, 1) := by decide +kernel
theorem dM_isCapability_42 : decode prog_7_method_42_code 42 = .ok (.ireturn, 1) := by decide +kernel
theorem dM_descendants_0 : decode prog_7_method_44_code 0 = .ok (.aload_n 0, 1) := by decide +kernel
theorem dM_descendants_1 : decode prog_7_method_44_code 1 = .ok (.iload_n 1, 1) := by decide +kernel
theorem dM_descendants_2 : decode prog_7_method_44_code 2 = .ok (.iload_n 2, 1) := by decide +kernel
theorem dM_descendants_3 : decode prog_7_method_44_code 3 = .ok (.invokevirtual 193, 3) := by decide +kernel
theorem dM_descendants_6 : decode prog_7_method_44_code 6 = .ok (.ifCond .eq 16, 3) := by decide +kernel
theorem dM_descendants_9 : decode prog_7_method_44_code 9 = .ok (.aload_n 0, 1) := by decide +kernel
theorem dM_descendants_10 : decode prog_7_method_44_code 10 = .ok (.bipush 8, 2) := by decide +kernel
theorem dM_descendants_12 : decode prog_7_method_44_code 12 = .ok (.iload_n 1, 1) := by decide +kernel
theorem dM_descendants_13 : decode prog_7_method_44_code 13 = .ok (.imul, 1) := by decide +kernel
theorem dM_descendants_14 : decode prog_7_method_44_code 14 = .ok (.iload_n 2, 1) := by decide +kernel
theorem dM_descendants_15 : decode prog_7_method_44_code 15 = .ok (.iadd, 1) := by decide +kernel
theorem dM_descendants_16 : decode prog_7_method_44_code 16 = .ok (.invokevirtual 97, 3) := by decide +kernel
theorem dM_descendants_19 : decode prog_7_method_44_code 19 = .ok (.goto 4, 3) := by decide +kernel
theorem dM_descendants_22 : decode prog_7_method_44_code 22 = .ok (.iconst (-1), 1) := by decide +kernel
theorem dM_descendants_23 : decode prog_7_method_44_code 23 = .ok (.ireturn, 1) := by decide +kernel
theorem dM_inRow_0 : decode prog_7_method_45_code 0 = .ok (.iload_n 1, 1) := by decide +kernel
theorem dM_inRow_1 : decode prog_7_method_45_code 1 = .ok (.iconst (-1), 1) := by decide +kernel
theorem dM_inRow_2 : decode prog_7_method_45_code 2 = .ok (.if_icmp .lt 17, 3) := by decide +kernel
theorem dM_inRow_5 : decode prog_7_method_45_code 5 = .ok (.iload_n 1, 1) := by decide +kernel
theorem dM_inRow_6 : decode prog_7_method_45_code 6 = .ok (.iconst 3, 1) := by decide +kernel
theorem dM_inRow_7 : decode prog_7_method_45_code 7 = .ok (.if_icmp .gt 12, 3) := by decide +kernel
theorem dM_inRow_10 : decode prog_7_method_45_code 10 = .ok (.iload_n 2, 1) := by decide +kernel
theorem dM_inRow_11 : decode prog_7_method_45_code 11 = .ok (.ifCond .lt 8, 3) := by decide +kernel
theorem dM_inRow_14 : decode prog_7_method_45_code 14 = .ok (.iload_n 2, 1) := by decide +kernel
theorem dM_inRow_15 : decode prog_7_method_45_code 15 = .ok (.iconst 5, 1) := by decide +kernel
theorem dM_inRow_16 : decode prog_7_method_45_code 16 = .ok (.if_icmp .le 7, 3) := by decide +kernel
theorem dM_inRow_19 : decode prog_7_method_45_code 19 = .ok (.iconst (-1), 1) := by decide +kernel
theorem dM_inRow_20 : decode prog_7_method_45_code 20 = .ok (.goto 9, 3) := by decide +kernel
theorem dM_inRow_23 : decode prog_7_method_45_code 23 = .ok (.aload_n 0, 1) := by decide +kernel
theorem dM_inRow_24 : decode prog_7_method_45_code 24 = .ok (.iload_n 1, 1) := by decide +kernel
theorem dM_inRow_25 : decode prog_7_method_45_code 25 = .ok (.iload_n 2, 1) := by decide +kernel
theorem dM_inRow_26 : decode prog_7_method_45_code 26 = .ok (.invokevirtual 90, 3) := by decide +kernel
theorem dM_inRow_29 : decode prog_7_method_45_code 29 = .ok (.ireturn, 1) := by decide +kernel
theorem dM_printed_0 : decode prog_7_method_46_code 0 = .ok (.aload_n 0, 1) := by decide +kernel
theorem dM_printed_1 : decode prog_7_method_46_code 1 = .ok (.getfield 139, 3) := by decide +kernel
theorem dM_printed_4 : decode prog_7_method_46_code 4 = .ok (.ireturn, 1) := by decide +kernel
theorem dM_print_0 : decode prog_7_method_47_code 0 = .ok (.iload_n 1, 1) := by decide +kernel
theorem dM_print_1 : decode prog_7_method_47_code 1 = .ok (.ifCond .lt 17, 3) := by decide +kernel
theorem dM_print_4 : decode prog_7_method_47_code 4 = .ok (.iload_n 1, 1) := by decide +kernel
theorem dM_print_5 : decode prog_7_method_47_code 5 = .ok (.bipush 15, 2) := by decide +kernel
theorem dM_print_7 : decode prog_7_method_47_code 7 = .ok (.if_icmp .gt 11, 3) := by decide +kernel
theorem dM_print_10 : decode prog_7_method_47_code 10 = .ok (.iload_n 1, 1) := by decide +kernel
theorem dM_print_11 : decode prog_7_method_47_code 11 = .ok (.aload_n 0, 1) := by decide +kernel
theorem dM_print_12 : decode prog_7_method_47_code 12 = .ok (.getfield 139, 3) := by decide +kernel
theorem dM_print_15 : decode prog_7_method_47_code 15 = .ok (.if_icmp .lt 7, 3) := by decide +kernel
theorem dM_print_18 : decode prog_7_method_47_code 18 = .ok (.iconst 0, 1) := by decide +kernel
theorem dM_print_19 : decode prog_7_method_47_code 19 = .ok (.goto 19, 3) := by decide +kernel
theorem dM_print_22 : decode prog_7_method_47_code 22 = .ok (.aload_n 0, 1) := by decide +kernel
theorem dM_print_23 : decode prog_7_method_47_code 23 = .ok (.getfield 68, 3) := by decide +kernel
theorem dM_print_26 : decode prog_7_method_47_code 26 = .ok (.aload_n 0, 1) := by decide +kernel
theorem dM_print_27 : decode prog_7_method_47_code 27 = .ok (.getfield 139, 3) := by decide +kernel
theorem dM_print_30 : decode prog_7_method_47_code 30 = .ok (.iconst 1, 1) := by decide +kernel
theorem dM_print_31 : decode prog_7_method_47_code 31 = .ok (.isub, 1) := by decide +kernel
theorem dM_print_32 : decode prog_7_method_47_code 32 = .ok (.iload_n 1, 1) := by decide +kernel
theorem dM_print_33 : decode prog_7_method_47_code 33 = .ok (.isub, 1) := by decide +kernel
theorem dM_print_34 : decode prog_7_method_47_code 34 = .ok (.bipush 15, 2) := by decide +kernel
theorem dM_print_36 : decode prog_7_method_47_code 36 = .ok (.iand, 1) := by decide +kernel
theorem dM_print_37 : decode prog_7_method_47_code 37 = .ok (.iaload, 1) := by decide +kernel
theorem dM_print_38 : decode prog_7_method_47_code 38 = .ok (.ireturn, 1) := by decide +kernel
theorem dL_cell_0 : decode method_2_code 0 = .ok (.iload_n 1, 1) := by decide +kernel
theorem dL_cell_1 : decode method_2_code 1 = .ok (.aload_n 0, 1) := by decide +kernel
theorem dL_cell_2 : decode method_2_code 2 = .ok (.arraylength, 1) := by decide +kernel
theorem dL_cell_3 : decode method_2_code 3 = .ok (.if_icmp .ge 9, 3) := by decide +kernel
theorem dL_cell_6 : decode method_2_code 6 = .ok (.aload_n 0, 1) := by decide +kernel
theorem dL_cell_7 : decode method_2_code 7 = .ok (.iload_n 1, 1) := by decide +kernel
theorem dL_cell_8 : decode method_2_code 8 = .ok (.iaload, 1) := by decide +kernel
theorem dL_cell_9 : decode method_2_code 9 = .ok (.goto 4, 3) := by decide +kernel
theorem dL_cell_12 : decode method_2_code 12 = .ok (.iconst 0, 1) := by decide +kernel
theorem dL_cell_13 : decode method_2_code 13 = .ok (.ireturn, 1) := by decide +kernel
theorem dL_law_0 : decode code 0 = .ok (.new 7, 3) := by decide +kernel
theorem dL_law_3 : decode code 3 = .ok (.dup, 1) := by decide +kernel
theorem dL_law_4 : decode code 4 = .ok (.aload_n 0, 1) := by decide +kernel
theorem dL_law_5 : decode code 5 = .ok (.iconst 0, 1) := by decide +kernel
theorem dL_law_6 : decode code 6 = .ok (.invokestatic 9, 3) := by decide +kernel
theorem dL_law_9 : decode code 9 = .ok (.invokespecial 15, 3) := by decide +kernel
theorem dL_law_12 : decode code 12 = .ok (.astore_n 1, 1) := by decide +kernel
theorem dL_law_13 : decode code 13 = .ok (.new 18, 3) := by decide +kernel
theorem dL_law_16 : decode code 16 = .ok (.dup, 1) := by decide +kernel
theorem dL_law_17 : decode code 17 = .ok (.aload_n 0, 1) := by decide +kernel
theorem dL_law_18 : decode code 18 = .ok (.iconst 0, 1) := by decide +kernel
theorem dL_law_19 : decode code 19 = .ok (.invokestatic 9, 3) := by decide +kernel
theorem dL_law_22 : decode code 22 = .ok (.invokespecial 20, 3) := by decide +kernel
theorem dL_law_25 : decode code 25 = .ok (.astore_n 2, 1) := by decide +kernel
theorem dL_law_26 : decode code 26 = .ok (.iconst 1, 1) := by decide +kernel
theorem dL_law_27 : decode code 27 = .ok (.istore_n 3, 1) := by decide +kernel
theorem dL_law_28 : decode code 28 = .ok (.iload_n 3, 1) := by decide +kernel
theorem dL_law_29 : decode code 29 = .ok (.aload_n 0, 1) := by decide +kernel
theorem dL_law_30 : decode code 30 = .ok (.arraylength, 1) := by decide +kernel
theorem dL_law_31 : decode code 31 = .ok (.bipush 6, 2) := by decide +kernel
theorem dL_law_33 : decode code 33 = .ok (.isub, 1) := by decide +kernel
theorem dL_law_34 : decode code 34 = .ok (.if_icmp .gt 617, 3) := by decide +kernel
theorem dL_law_37 : decode code 37 = .ok (.aload_n 0, 1) := by decide +kernel
theorem dL_law_38 : decode code 38 = .ok (.iload_n 3, 1) := by decide +kernel
theorem dL_law_39 : decode code 39 = .ok (.iaload, 1) := by decide +kernel
theorem dL_law_40 : decode code 40 = .ok (.bipush 31, 2) := by decide +kernel
theorem dL_law_42 : decode code 42 = .ok (.iand, 1) := by decide +kernel
theorem dL_law_43 : decode code 43 = .ok (.tableswitch 602 0 16 #[81, 114, 137, 180, 223, 286, 309, 332, 355, 378, 411, 434, 457, 500, 533, 566, 579], 81) := by decide +kernel
theorem dL_law_124 : decode code 124 = .ok (.aload_n 1, 1) := by decide +kernel
theorem dL_law_125 : decode code 125 = .ok (.aload_n 0, 1) := by decide +kernel
theorem dL_law_126 : decode code 126 = .ok (.iload_n 3, 1) := by decide +kernel
theorem dL_law_127 : decode code 127 = .ok (.iconst 1, 1) := by decide +kernel
theorem dL_law_128 : decode code 128 = .ok (.iadd, 1) := by decide +kernel
theorem dL_law_129 : decode code 129 = .ok (.iaload, 1) := by decide +kernel
theorem dL_law_130 : decode code 130 = .ok (.aload_n 0, 1) := by decide +kernel
theorem dL_law_131 : decode code 131 = .ok (.iload_n 3, 1) := by decide +kernel
theorem dL_law_132 : decode code 132 = .ok (.iconst 2, 1) := by decide +kernel
theorem dL_law_133 : decode code 133 = .ok (.iadd, 1) := by decide +kernel
theorem dL_law_134 : decode code 134 = .ok (.iaload, 1) := by decide +kernel
theorem dL_law_135 : decode code 135 = .ok (.invokevirtual 21, 3) := by decide +kernel
theorem dL_law_138 : decode code 138 = .ok (.aload_n 2, 1) := by decide +kernel
theorem dL_law_139 : decode code 139 = .ok (.aload_n 0, 1) := by decide +kernel
theorem dL_law_140 : decode code 140 = .ok (.iload_n 3, 1) := by decide +kernel
theorem dL_law_141 : decode code 141 = .ok (.iconst 1, 1) := by decide +kernel
theorem dL_law_142 : decode code 142 = .ok (.iadd, 1) := by decide +kernel
theorem dL_law_143 : decode code 143 = .ok (.iaload, 1) := by decide +kernel
theorem dL_law_144 : decode code 144 = .ok (.aload_n 0, 1) := by decide +kernel
theorem dL_law_145 : decode code 145 = .ok (.iload_n 3, 1) := by decide +kernel
theorem dL_law_146 : decode code 146 = .ok (.iconst 2, 1) := by decide +kernel
theorem dL_law_147 : decode code 147 = .ok (.iadd, 1) := by decide +kernel
theorem dL_law_148 : decode code 148 = .ok (.iaload, 1) := by decide +kernel
theorem dL_law_149 : decode code 149 = .ok (.invokevirtual 25, 3) := by decide +kernel
theorem dL_law_152 : decode code 152 = .ok (.if_icmp .eq 493, 3) := by decide +kernel
theorem dL_law_155 : decode code 155 = .ok (.iconst 0, 1) := by decide +kernel
theorem dL_law_156 : decode code 156 = .ok (.ireturn, 1) := by decide +kernel
theorem dL_law_157 : decode code 157 = .ok (.aload_n 1, 1) := by decide +kernel
theorem dL_law_158 : decode code 158 = .ok (.aload_n 0, 1) := by decide +kernel
theorem dL_law_159 : decode code 159 = .ok (.iload_n 3, 1) := by decide +kernel
theorem dL_law_160 : decode code 160 = .ok (.iconst 1, 1) := by decide +kernel
theorem dL_law_161 : decode code 161 = .ok (.iadd, 1) := by decide +kernel
theorem dL_law_162 : decode code 162 = .ok (.iaload, 1) := by decide +kernel
theorem dL_law_163 : decode code 163 = .ok (.invokevirtual 26, 3) := by decide +kernel
theorem dL_law_166 : decode code 166 = .ok (.aload_n 2, 1) := by decide +kernel
theorem dL_law_167 : decode code 167 = .ok (.aload_n 0, 1) := by decide +kernel
theorem dL_law_168 : decode code 168 = .ok (.iload_n 3, 1) := by decide +kernel
theorem dL_law_169 : decode code 169 = .ok (.iconst 1, 1) := by decide +kernel
theorem dL_law_170 : decode code 170 = .ok (.iadd, 1) := by decide +kernel
theorem dL_law_171 : decode code 171 = .ok (.iaload, 1) := by decide +kernel
theorem dL_law_172 : decode code 172 = .ok (.invokevirtual 30, 3) := by decide +kernel
theorem dL_law_175 : decode code 175 = .ok (.if_icmp .eq 470, 3) := by decide +kernel
theorem dL_law_178 : decode code 178 = .ok (.iconst 0, 1) := by decide +kernel
theorem dL_law_179 : decode code 179 = .ok (.ireturn, 1) := by decide +kernel
theorem dL_law_180 : decode code 180 = .ok (.aload_n 1, 1) := by decide +kernel
theorem dL_law_181 : decode code 181 = .ok (.aload_n 0, 1) := by decide +kernel
theorem dL_law_182 : decode code 182 = .ok (.iload_n 3, 1) := by decide +kernel
theorem dL_law_183 : decode code 183 = .ok (.iconst 1, 1) := by decide +kernel
theorem dL_law_184 : decode code 184 = .ok (.iadd, 1) := by decide +kernel
theorem dL_law_185 : decode code 185 = .ok (.iaload, 1) := by decide +kernel
theorem dL_law_186 : decode code 186 = .ok (.aload_n 0, 1) := by decide +kernel
theorem dL_law_187 : decode code 187 = .ok (.iload_n 3, 1) := by decide +kernel
theorem dL_law_188 : decode code 188 = .ok (.iconst 2, 1) := by decide +kernel
theorem dL_law_189 : decode code 189 = .ok (.iadd, 1) := by decide +kernel
theorem dL_law_190 : decode code 190 = .ok (.iaload, 1) := by decide +kernel
theorem dL_law_191 : decode code 191 = .ok (.aload_n 0, 1) := by decide +kernel
theorem dL_law_192 : decode code 192 = .ok (.iload_n 3, 1) := by decide +kernel
theorem dL_law_193 : decode code 193 = .ok (.iconst 3, 1) := by decide +kernel
theorem dL_law_194 : decode code 194 = .ok (.iadd, 1) := by decide +kernel
theorem dL_law_195 : decode code 195 = .ok (.iaload, 1) := by decide +kernel
theorem dL_law_196 : decode code 196 = .ok (.invokevirtual 31, 3) := by decide +kernel
theorem dL_law_199 : decode code 199 = .ok (.aload_n 2, 1) := by decide +kernel
theorem dL_law_200 : decode code 200 = .ok (.aload_n 0, 1) := by decide +kernel
theorem dL_law_201 : decode code 201 = .ok (.iload_n 3, 1) := by decide +kernel
theorem dL_law_202 : decode code 202 = .ok (.iconst 1, 1) := by decide +kernel
theorem dL_law_203 : decode code 203 = .ok (.iadd, 1) := by decide +kernel
theorem dL_law_204 : decode code 204 = .ok (.iaload, 1) := by decide +kernel
theorem dL_law_205 : decode code 205 = .ok (.aload_n 0, 1) := by decide +kernel
theorem dL_law_206 : decode code 206 = .ok (.iload_n 3, 1) := by decide +kernel
theorem dL_law_207 : decode code 207 = .ok (.iconst 2, 1) := by decide +kernel
theorem dL_law_208 : decode code 208 = .ok (.iadd, 1) := by decide +kernel
theorem dL_law_209 : decode code 209 = .ok (.iaload, 1) := by decide +kernel
theorem dL_law_210 : decode code 210 = .ok (.aload_n 0, 1) := by decide +kernel
theorem dL_law_211 : decode code 211 = .ok (.iload_n 3, 1) := by decide +kernel
theorem dL_law_212 : decode code 212 = .ok (.iconst 3, 1) := by decide +kernel
theorem dL_law_213 : decode code 213 = .ok (.iadd, 1) := by decide +kernel
theorem dL_law_214 : decode code 214 = .ok (.iaload, 1) := by decide +kernel
theorem dL_law_215 : decode code 215 = .ok (.invokevirtual 35, 3) := by decide +kernel
theorem dL_law_218 : decode code 218 = .ok (.if_icmp .eq 427, 3) := by decide +kernel
theorem dL_law_221 : decode code 221 = .ok (.iconst 0, 1) := by decide +kernel
theorem dL_law_222 : decode code 222 = .ok (.ireturn, 1) := by decide +kernel
theorem dL_law_223 : decode code 223 = .ok (.aload_n 1, 1) := by decide +kernel
theorem dL_law_224 : decode code 224 = .ok (.aload_n 0, 1) := by decide +kernel
theorem dL_law_225 : decode code 225 = .ok (.iload_n 3, 1) := by decide +kernel
theorem dL_law_226 : decode code 226 = .ok (.iconst 1, 1) := by decide +kernel
theorem dL_law_227 : decode code 227 = .ok (.iadd, 1) := by decide +kernel
theorem dL_law_228 : decode code 228 = .ok (.iaload, 1) := by decide +kernel
theorem dL_law_229 : decode code 229 = .ok (.aload_n 0, 1) := by decide +kernel
theorem dL_law_230 : decode code 230 = .ok (.iload_n 3, 1) := by decide +kernel
theorem dL_law_231 : decode code 231 = .ok (.iconst 2, 1) := by decide +kernel
theorem dL_law_232 : decode code 232 = .ok (.iadd, 1) := by decide +kernel
theorem dL_law_233 : decode code 233 = .ok (.iaload, 1) := by decide +kernel
theorem dL_law_234 : decode code 234 = .ok (.aload_n 0, 1) := by decide +kernel
theorem dL_law_235 : decode code 235 = .ok (.iload_n 3, 1) := by decide +kernel
theorem dL_law_236 : decode code 236 = .ok (.iconst 3, 1) := by decide +kernel
theorem dL_law_237 : decode code 237 = .ok (.iadd, 1) := by decide +kernel
theorem dL_law_238 : decode code 238 = .ok (.iaload, 1) := by decide +kernel
theorem dL_law_239 : decode code 239 = .ok (.invokevirtual 36, 3) := by decide +kernel
theorem dL_law_242 : decode code 242 = .ok (.aload_n 2, 1) := by decide +kernel
theorem dL_law_243 : decode code 243 = .ok (.aload_n 0, 1) := by decide +kernel
theorem dL_law_244 : decode code 244 = .ok (.iload_n 3, 1) := by decide +kernel
theorem dL_law_245 : decode code 245 = .ok (.iconst 1, 1) := by decide +kernel
theorem dL_law_246 : decode code 246 = .ok (.iadd, 1) := by decide +kernel
theorem dL_law_247 : decode code 247 = .ok (.iaload, 1) := by decide +kernel
theorem dL_law_248 : decode code 248 = .ok (.aload_n 0, 1) := by decide +kernel
theorem dL_law_249 : decode code 249 = .ok (.iload_n 3, 1) := by decide +kernel
theorem dL_law_250 : decode code 250 = .ok (.iconst 2, 1) := by decide +kernel
theorem dL_law_251 : decode code 251 = .ok (.iadd, 1) := by decide +kernel
theorem dL_law_252 : decode code 252 = .ok (.iaload, 1) := by decide +kernel
theorem dL_law_253 : decode code 253 = .ok (.aload_n 0, 1) := by decide +kernel
theorem dL_law_254 : decode code 254 = .ok (.iload_n 3, 1) := by decide +kernel
theorem dL_law_255 : decode code 255 = .ok (.iconst 3, 1) := by decide +kernel
theorem dL_law_256 : decode code 256 = .ok (.iadd, 1) := by decide +kernel
theorem dL_law_257 : decode code 257 = .ok (.iaload, 1) := by decide +kernel
theorem dL_law_258 : decode code 258 = .ok (.invokevirtual 40, 3) := by decide +kernel
theorem dL_law_261 : decode code 261 = .ok (.if_icmp .eq 384, 3) := by decide +kernel
theorem dL_law_264 : decode code 264 = .ok (.iconst 0, 1) := by decide +kernel
theorem dL_law_265 : decode code 265 = .ok (.ireturn, 1) := by decide +kernel
theorem dL_law_266 : decode code 266 = .ok (.aload_n 1, 1) := by decide +kernel
theorem dL_law_267 : decode code 267 = .ok (.aload_n 0, 1) := by decide +kernel
theorem dL_law_268 : decode code 268 = .ok (.iload_n 3, 1) := by decide +kernel
theorem dL_law_269 : decode code 269 = .ok (.iconst 1, 1) := by decide +kernel
theorem dL_law_270 : decode code 270 = .ok (.iadd, 1) := by decide +kernel
theorem dL_law_271 : decode code 271 = .ok (.iaload, 1) := by decide +kernel
theorem dL_law_272 : decode code 272 = .ok (.aload_n 0, 1) := by decide +kernel
theorem dL_law_273 : decode code 273 = .ok (.iload_n 3, 1) := by decide +kernel
theorem dL_law_274 : decode code 274 = .ok (.iconst 2, 1) := by decide +kernel
theorem dL_law_275 : decode code 275 = .ok (.iadd, 1) := by decide +kernel
theorem dL_law_276 : decode code 276 = .ok (.iaload, 1) := by decide +kernel
theorem dL_law_277 : decode code 277 = .ok (.aload_n 0, 1) := by decide +kernel
theorem dL_law_278 : decode code 278 = .ok (.iload_n 3, 1) := by decide +kernel
theorem dL_law_279 : decode code 279 = .ok (.iconst 3, 1) := by decide +kernel
theorem dL_law_280 : decode code 280 = .ok (.iadd, 1) := by decide +kernel
theorem dL_law_281 : decode code 281 = .ok (.iaload, 1) := by decide +kernel
theorem dL_law_282 : decode code 282 = .ok (.aload_n 0, 1) := by decide +kernel
theorem dL_law_283 : decode code 283 = .ok (.iload_n 3, 1) := by decide +kernel
theorem dL_law_284 : decode code 284 = .ok (.iconst 4, 1) := by decide +kernel
theorem dL_law_285 : decode code 285 = .ok (.iadd, 1) := by decide +kernel
theorem dL_law_286 : decode code 286 = .ok (.iaload, 1) := by decide +kernel
theorem dL_law_287 : decode code 287 = .ok (.aload_n 0, 1) := by decide +kernel
theorem dL_law_288 : decode code 288 = .ok (.iload_n 3, 1) := by decide +kernel
theorem dL_law_289 : decode code 289 = .ok (.iconst 5, 1) := by decide +kernel
theorem dL_law_290 : decode code 290 = .ok (.iadd, 1) := by decide +kernel
theorem dL_law_291 : decode code 291 = .ok (.iaload, 1) := by decide +kernel
theorem dL_law_292 : decode code 292 = .ok (.invokevirtual 41, 3) := by decide +kernel
theorem dL_law_295 : decode code 295 = .ok (.aload_n 2, 1) := by decide +kernel
theorem dL_law_296 : decode code 296 = .ok (.aload_n 0, 1) := by decide +kernel
theorem dL_law_297 : decode code 297 = .ok (.iload_n 3, 1) := by decide +kernel
theorem dL_law_298 : decode code 298 = .ok (.iconst 1, 1) := by decide +kernel
theorem dL_law_299 : decode code 299 = .ok (.iadd, 1) := by decide +kernel
theorem dL_law_300 : decode code 300 = .ok (.iaload, 1) := by decide +kernel
theorem dL_law_301 : decode code 301 = .ok (.aload_n 0, 1) := by decide +kernel
theorem dL_law_302 : decode code 302 = .ok (.iload_n 3, 1) := by decide +kernel
theorem dL_law_303 : decode code 303 = .ok (.iconst 2, 1) := by decide +kernel
theorem dL_law_304 : decode code 304 = .ok (.iadd, 1) := by decide +kernel
theorem dL_law_305 : decode code 305 = .ok (.iaload, 1) := by decide +kernel
theorem dL_law_306 : decode code 306 = .ok (.aload_n 0, 1) := by decide +kernel
theorem dL_law_307 : decode code 307 = .ok (.iload_n 3, 1) := by decide +kernel
theorem dL_law_308 : decode code 308 = .ok (.iconst 3, 1) := by decide +kernel
theorem dL_law_309 : decode code 309 = .ok (.iadd, 1) := by decide +kernel
theorem dL_law_310 : decode code 310 = .ok (.iaload, 1) := by decide +kernel
theorem dL_law_311 : decode code 311 = .ok (.aload_n 0, 1) := by decide +kernel
theorem dL_law_312 : decode code 312 = .ok (.iload_n 3, 1) := by decide +kernel
theorem dL_law_313 : decode code 313 = .ok (.iconst 4, 1) := by decide +kernel
theorem dL_law_314 : decode code 314 = .ok (.iadd, 1) := by decide +kernel
theorem dL_law_315 : decode code 315 = .ok (.iaload, 1) := by decide +kernel
theorem dL_law_316 : decode code 316 = .ok (.aload_n 0, 1) := by decide +kernel
theorem dL_law_317 : decode code 317 = .ok (.iload_n 3, 1) := by decide +kernel
theorem dL_law_318 : decode code 318 = .ok (.iconst 5, 1) := by decide +kernel
theorem dL_law_319 : decode code 319 = .ok (.iadd, 1) := by decide +kernel
theorem dL_law_320 : decode code 320 = .ok (.iaload, 1) := by decide +kernel
theorem dL_law_321 : decode code 321 = .ok (.invokevirtual 45, 3) := by decide +kernel
theorem dL_law_324 : decode code 324 = .ok (.if_icmp .eq 321, 3) := by decide +kernel
theorem dL_law_327 : decode code 327 = .ok (.iconst 0, 1) := by decide +kernel
theorem dL_law_328 : decode code 328 = .ok (.ireturn, 1) := by decide +kernel
theorem dL_law_329 : decode code 329 = .ok (.aload_n 1, 1) := by decide +kernel
theorem dL_law_330 : decode code 330 = .ok (.aload_n 0, 1) := by decide +kernel
theorem dL_law_331 : decode code 331 = .ok (.iload_n 3, 1) := by decide +kernel
theorem dL_law_332 : decode code 332 = .ok (.iconst 1, 1) := by decide +kernel
theorem dL_law_333 : decode code 333 = .ok (.iadd, 1) := by decide +kernel
theorem dL_law_334 : decode code 334 = .ok (.iaload, 1) := by decide +kernel
theorem dL_law_335 : decode code 335 = .ok (.invokevirtual 46, 3) := by decide +kernel
theorem dL_law_338 : decode code 338 = .ok (.aload_n 2, 1) := by decide +kernel
theorem dL_law_339 : decode code 339 = .ok (.aload_n 0, 1) := by decide +kernel
theorem dL_law_340 : decode code 340 = .ok (.iload_n 3, 1) := by decide +kernel
theorem dL_law_341 : decode code 341 = .ok (.iconst 1, 1) := by decide +kernel
theorem dL_law_342 : decode code 342 = .ok (.iadd, 1) := by decide +kernel
theorem dL_law_343 : decode code 343 = .ok (.iaload, 1) := by decide +kernel
theorem dL_law_344 : decode code 344 = .ok (.invokevirtual 50, 3) := by decide +kernel
theorem dL_law_347 : decode code 347 = .ok (.if_icmp .eq 298, 3) := by decide +kernel
theorem dL_law_350 : decode code 350 = .ok (.iconst 0, 1) := by decide +kernel
