theorem dX6_init_0 : decode cX6_init 0 = .ok (.aload_n 0, 1) := by decide +kernel
theorem dX6_init_1 : decode cX6_init 1 = .ok (.invokespecial 1, 3) := by decide +kernel
theorem dX6_init_4 : decode cX6_init 4 = .ok (.aload_n 0, 1) := by decide +kernel
theorem dX6_init_5 : decode cX6_init 5 = .ok (.new 7, 3) := by decide +kernel
theorem dX6_init_8 : decode cX6_init 8 = .ok (.dup, 1) := by decide +kernel
theorem dX6_init_9 : decode cX6_init 9 = .ok (.invokespecial 9, 3) := by decide +kernel
theorem dX6_init_12 : decode cX6_init 12 = .ok (.putfield 10, 3) := by decide +kernel
theorem dX6_init_15 : decode cX6_init 15 = .ok (.aload_n 0, 1) := by decide +kernel
theorem dX6_init_16 : decode cX6_init 16 = .ok (.new 7, 3) := by decide +kernel
theorem dX6_init_19 : decode cX6_init 19 = .ok (.dup, 1) := by decide +kernel
theorem dX6_init_20 : decode cX6_init 20 = .ok (.invokespecial 9, 3) := by decide +kernel
theorem dX6_init_23 : decode cX6_init 23 = .ok (.putfield 16, 3) := by decide +kernel
theorem dX6_init_26 : decode cX6_init 26 = .ok (.aload_n 0, 1) := by decide +kernel
theorem dX6_init_27 : decode cX6_init 27 = .ok (.iconst 2, 1) := by decide +kernel
theorem dX6_init_28 : decode cX6_init 28 = .ok (.anewarray 7, 3) := by decide +kernel
theorem dX6_init_31 : decode cX6_init 31 = .ok (.putfield 19, 3) := by decide +kernel
theorem dX6_init_34 : decode cX6_init 34 = .ok (.aload_n 0, 1) := by decide +kernel
theorem dX6_init_35 : decode cX6_init 35 = .ok (.new 23, 3) := by decide +kernel
theorem dX6_init_38 : decode cX6_init 38 = .ok (.dup, 1) := by decide +kernel
theorem dX6_init_39 : decode cX6_init 39 = .ok (.invokespecial 25, 3) := by decide +kernel
theorem dX6_init_42 : decode cX6_init 42 = .ok (.putfield 26, 3) := by decide +kernel
theorem dX6_init_45 : decode cX6_init 45 = .ok (.aload_n 0, 1) := by decide +kernel
theorem dX6_init_46 : decode cX6_init 46 = .ok (.new 30, 3) := by decide +kernel
theorem dX6_init_49 : decode cX6_init 49 = .ok (.dup, 1) := by decide +kernel
theorem dX6_init_50 : decode cX6_init 50 = .ok (.invokespecial 32, 3) := by decide +kernel
theorem dX6_init_53 : decode cX6_init 53 = .ok (.putfield 33, 3) := by decide +kernel
theorem dX6_init_56 : decode cX6_init 56 = .ok (.aload_n 0, 1) := by decide +kernel
theorem dX6_init_57 : decode cX6_init 57 = .ok (.new 37, 3) := by decide +kernel
theorem dX6_init_60 : decode cX6_init 60 = .ok (.dup, 1) := by decide +kernel
theorem dX6_init_61 : decode cX6_init 61 = .ok (.invokespecial 39, 3) := by decide +kernel
theorem dX6_init_64 : decode cX6_init 64 = .ok (.putfield 40, 3) := by decide +kernel
theorem dX6_init_67 : decode cX6_init 67 = .ok (.aload_n 0, 1) := by decide +kernel
theorem dX6_init_68 : decode cX6_init 68 = .ok (.new 44, 3) := by decide +kernel
theorem dX6_init_71 : decode cX6_init 71 = .ok (.dup, 1) := by decide +kernel
theorem dX6_init_72 : decode cX6_init 72 = .ok (.invokespecial 46, 3) := by decide +kernel
theorem dX6_init_75 : decode cX6_init 75 = .ok (.putfield 47, 3) := by decide +kernel
theorem dX6_init_78 : decode cX6_init 78 = .ok (.aload_n 0, 1) := by decide +kernel
theorem dX6_init_79 : decode cX6_init 79 = .ok (.iconst 4, 1) := by decide +kernel
theorem dX6_init_80 : decode cX6_init 80 = .ok (.newarray .int, 2) := by decide +kernel
theorem dX6_init_82 : decode cX6_init 82 = .ok (.putfield 51, 3) := by decide +kernel
theorem dX6_init_85 : decode cX6_init 85 = .ok (.aload_n 0, 1) := by decide +kernel
theorem dX6_init_86 : decode cX6_init 86 = .ok (.lconst 0, 1) := by decide +kernel
theorem dX6_init_87 : decode cX6_init 87 = .ok (.putfield 55, 3) := by decide +kernel
theorem dX6_init_90 : decode cX6_init 90 = .ok (.return_, 1) := by decide +kernel
theorem dX6_write_0 : decode cX6_write 0 = .ok (.iload_n 1, 1) := by decide +kernel
theorem dX6_write_1 : decode cX6_write 1 = .ok (.ifCond .lt 10, 3) := by decide +kernel
theorem dX6_write_4 : decode cX6_write 4 = .ok (.iload_n 1, 1) := by decide +kernel
theorem dX6_write_5 : decode cX6_write 5 = .ok (.sipush 255, 3) := by decide +kernel
theorem dX6_write_8 : decode cX6_write 8 = .ok (.if_icmp .le 6, 3) := by decide +kernel
theorem dX6_write_11 : decode cX6_write 11 = .ok (.bipush (-2), 2) := by decide +kernel
theorem dX6_write_13 : decode cX6_write 13 = .ok (.ireturn, 1) := by decide +kernel
theorem dX6_write_14 : decode cX6_write 14 = .ok (.aload_n 0, 1) := by decide +kernel
theorem dX6_write_15 : decode cX6_write 15 = .ok (.getfield 26, 3) := by decide +kernel
theorem dX6_write_18 : decode cX6_write 18 = .ok (.iload_n 1, 1) := by decide +kernel
theorem dX6_write_19 : decode cX6_write 19 = .ok (.invokevirtual 59, 3) := by decide +kernel
theorem dX6_write_22 : decode cX6_write 22 = .ok (.ifCond .eq 13, 3) := by decide +kernel
theorem dX6_write_25 : decode cX6_write 25 = .ok (.aload_n 0, 1) := by decide +kernel
theorem dX6_write_26 : decode cX6_write 26 = .ok (.getfield 26, 3) := by decide +kernel
theorem dX6_write_29 : decode cX6_write 29 = .ok (.invokevirtual 63, 3) := by decide +kernel
theorem dX6_write_32 : decode cX6_write 32 = .ok (.goto 5, 3) := by decide +kernel
theorem dX6_write_35 : decode cX6_write 35 = .ok (.bipush (-4), 2) := by decide +kernel
theorem dX6_write_37 : decode cX6_write 37 = .ok (.ireturn, 1) := by decide +kernel
theorem dX6_wipe_0 : decode cX6_wipe 0 = .ok (.aload_n 0, 1) := by decide +kernel
theorem dX6_wipe_1 : decode cX6_wipe 1 = .ok (.getfield 26, 3) := by decide +kernel
theorem dX6_wipe_4 : decode cX6_wipe 4 = .ok (.invokevirtual 63, 3) := by decide +kernel
theorem dX6_wipe_7 : decode cX6_wipe 7 = .ok (.istore_n 1, 1) := by decide +kernel
theorem dX6_wipe_8 : decode cX6_wipe 8 = .ok (.aload_n 0, 1) := by decide +kernel
theorem dX6_wipe_9 : decode cX6_wipe 9 = .ok (.getfield 26, 3) := by decide +kernel
theorem dX6_wipe_12 : decode cX6_wipe 12 = .ok (.invokevirtual 67, 3) := by decide +kernel
theorem dX6_wipe_15 : decode cX6_wipe 15 = .ok (.iload_n 1, 1) := by decide +kernel
theorem dX6_wipe_16 : decode cX6_wipe 16 = .ok (.ireturn, 1) := by decide +kernel
theorem dX6_fault_0 : decode cX6_fault 0 = .ok (.aload_n 0, 1) := by decide +kernel
theorem dX6_fault_1 : decode cX6_fault 1 = .ok (.getfield 26, 3) := by decide +kernel
theorem dX6_fault_4 : decode cX6_fault 4 = .ok (.invokevirtual 70, 3) := by decide +kernel
theorem dX6_fault_7 : decode cX6_fault 7 = .ok (.ireturn, 1) := by decide +kernel
theorem dX6_put_0 : decode cX6_put 0 = .ok (.iload_n 1, 1) := by decide +kernel
theorem dX6_put_1 : decode cX6_put 1 = .ok (.invokestatic 73, 3) := by decide +kernel
theorem dX6_put_4 : decode cX6_put 4 = .ok (.ifCond .ne 5, 3) := by decide +kernel
theorem dX6_put_7 : decode cX6_put 7 = .ok (.iconst (-1), 1) := by decide +kernel
theorem dX6_put_8 : decode cX6_put 8 = .ok (.ireturn, 1) := by decide +kernel
theorem dX6_put_9 : decode cX6_put 9 = .ok (.aload_n 0, 1) := by decide +kernel
theorem dX6_put_10 : decode cX6_put 10 = .ok (.getfield 26, 3) := by decide +kernel
theorem dX6_put_13 : decode cX6_put 13 = .ok (.invokevirtual 70, 3) := by decide +kernel
theorem dX6_put_16 : decode cX6_put 16 = .ok (.bipush (-9), 2) := by decide +kernel
theorem dX6_put_18 : decode cX6_put 18 = .ok (.if_icmp .eq 6, 3) := by decide +kernel
theorem dX6_put_21 : decode cX6_put 21 = .ok (.bipush (-3), 2) := by decide +kernel
theorem dX6_put_23 : decode cX6_put 23 = .ok (.ireturn, 1) := by decide +kernel
theorem dX6_put_24 : decode cX6_put 24 = .ok (.aload_n 0, 1) := by decide +kernel
theorem dX6_put_25 : decode cX6_put 25 = .ok (.iload_n 1, 1) := by decide +kernel
theorem dX6_put_26 : decode cX6_put 26 = .ok (.aload_n 0, 1) := by decide +kernel
theorem dX6_put_27 : decode cX6_put 27 = .ok (.getfield 26, 3) := by decide +kernel
theorem dX6_put_30 : decode cX6_put 30 = .ok (.invokevirtual 76, 3) := by decide +kernel
theorem dX6_put_33 : decode cX6_put 33 = .ok (.invokevirtual 80, 3) := by decide +kernel
theorem dX6_put_36 : decode cX6_put 36 = .ok (.invokestatic 84, 3) := by decide +kernel
theorem dX6_put_39 : decode cX6_put 39 = .ok (.ireturn, 1) := by decide +kernel
theorem dX6_join_0 : decode cX6_join 0 = .ok (.aload_n 0, 1) := by decide +kernel
theorem dX6_join_1 : decode cX6_join 1 = .ok (.iconst 1, 1) := by decide +kernel
theorem dX6_join_2 : decode cX6_join 2 = .ok (.iload_n 1, 1) := by decide +kernel
theorem dX6_join_3 : decode cX6_join 3 = .ok (.iload_n 2, 1) := by decide +kernel
theorem dX6_join_4 : decode cX6_join 4 = .ok (.invokevirtual 90, 3) := by decide +kernel
theorem dX6_join_7 : decode cX6_join 7 = .ok (.ireturn, 1) := by decide +kernel
theorem dX6_meet_0 : decode cX6_meet 0 = .ok (.aload_n 0, 1) := by decide +kernel
theorem dX6_meet_1 : decode cX6_meet 1 = .ok (.iconst 2, 1) := by decide +kernel
theorem dX6_meet_2 : decode cX6_meet 2 = .ok (.iload_n 1, 1) := by decide +kernel
theorem dX6_meet_3 : decode cX6_meet 3 = .ok (.iload_n 2, 1) := by decide +kernel
theorem dX6_meet_4 : decode cX6_meet 4 = .ok (.invokevirtual 90, 3) := by decide +kernel
theorem dX6_meet_7 : decode cX6_meet 7 = .ok (.ireturn, 1) := by decide +kernel
theorem dX6_less_0 : decode cX6_less 0 = .ok (.aload_n 0, 1) := by decide +kernel
theorem dX6_less_1 : decode cX6_less 1 = .ok (.iconst 3, 1) := by decide +kernel
theorem dX6_less_2 : decode cX6_less 2 = .ok (.iload_n 1, 1) := by decide +kernel
theorem dX6_less_3 : decode cX6_less 3 = .ok (.iload_n 2, 1) := by decide +kernel
theorem dX6_less_4 : decode cX6_less 4 = .ok (.invokevirtual 90, 3) := by decide +kernel
theorem dX6_less_7 : decode cX6_less 7 = .ok (.ireturn, 1) := by decide +kernel
theorem dX6_turn_0 : decode cX6_turn 0 = .ok (.iload_n 1, 1) := by decide +kernel
theorem dX6_turn_1 : decode cX6_turn 1 = .ok (.invokestatic 73, 3) := by decide +kernel
theorem dX6_turn_4 : decode cX6_turn 4 = .ok (.ifCond .ne 5, 3) := by decide +kernel
theorem dX6_turn_7 : decode cX6_turn 7 = .ok (.iconst (-1), 1) := by decide +kernel
theorem dX6_turn_8 : decode cX6_turn 8 = .ok (.ireturn, 1) := by decide +kernel
theorem dX6_turn_9 : decode cX6_turn 9 = .ok (.aload_n 0, 1) := by decide +kernel
theorem dX6_turn_10 : decode cX6_turn 10 = .ok (.iload_n 1, 1) := by decide +kernel
theorem dX6_turn_11 : decode cX6_turn 11 = .ok (.aload_n 0, 1) := by decide +kernel
theorem dX6_turn_12 : decode cX6_turn 12 = .ok (.getfield 10, 3) := by decide +kernel
theorem dX6_turn_15 : decode cX6_turn 15 = .ok (.iload_n 1, 1) := by decide +kernel
theorem dX6_turn_16 : decode cX6_turn 16 = .ok (.invokevirtual 94, 3) := by decide +kernel
theorem dX6_turn_19 : decode cX6_turn 19 = .ok (.invokestatic 98, 3) := by decide +kernel
theorem dX6_turn_22 : decode cX6_turn 22 = .ok (.invokevirtual 80, 3) := by decide +kernel
theorem dX6_turn_25 : decode cX6_turn 25 = .ok (.invokestatic 104, 3) := by decide +kernel
theorem dX6_turn_28 : decode cX6_turn 28 = .ok (.ireturn, 1) := by decide +kernel
theorem dX6_flip_0 : decode cX6_flip 0 = .ok (.iload_n 1, 1) := by decide +kernel
theorem dX6_flip_1 : decode cX6_flip 1 = .ok (.invokestatic 73, 3) := by decide +kernel
theorem dX6_flip_4 : decode cX6_flip 4 = .ok (.ifCond .ne 5, 3) := by decide +kernel
theorem dX6_flip_7 : decode cX6_flip 7 = .ok (.iconst (-1), 1) := by decide +kernel
theorem dX6_flip_8 : decode cX6_flip 8 = .ok (.ireturn, 1) := by decide +kernel
theorem dX6_flip_9 : decode cX6_flip 9 = .ok (.aload_n 0, 1) := by decide +kernel
theorem dX6_flip_10 : decode cX6_flip 10 = .ok (.iload_n 1, 1) := by decide +kernel
theorem dX6_flip_11 : decode cX6_flip 11 = .ok (.aload_n 0, 1) := by decide +kernel
theorem dX6_flip_12 : decode cX6_flip 12 = .ok (.getfield 10, 3) := by decide +kernel
theorem dX6_flip_15 : decode cX6_flip 15 = .ok (.iload_n 1, 1) := by decide +kernel
theorem dX6_flip_16 : decode cX6_flip 16 = .ok (.invokevirtual 94, 3) := by decide +kernel
theorem dX6_flip_19 : decode cX6_flip 19 = .ok (.invokestatic 107, 3) := by decide +kernel
theorem dX6_flip_22 : decode cX6_flip 22 = .ok (.invokevirtual 80, 3) := by decide +kernel
theorem dX6_flip_25 : decode cX6_flip 25 = .ok (.invokestatic 104, 3) := by decide +kernel
theorem dX6_flip_28 : decode cX6_flip 28 = .ok (.ireturn, 1) := by decide +kernel
theorem dX6_halve_0 : decode cX6_halve 0 = .ok (.iload_n 1, 1) := by decide +kernel
theorem dX6_halve_1 : decode cX6_halve 1 = .ok (.invokestatic 73, 3) := by decide +kernel
theorem dX6_halve_4 : decode cX6_halve 4 = .ok (.ifCond .eq 10, 3) := by decide +kernel
theorem dX6_halve_7 : decode cX6_halve 7 = .ok (.iload_n 2, 1) := by decide +kernel
theorem dX6_halve_8 : decode cX6_halve 8 = .ok (.invokestatic 110, 3) := by decide +kernel
theorem dX6_halve_11 : decode cX6_halve 11 = .ok (.ifCond .ne 5, 3) := by decide +kernel
theorem dX6_halve_14 : decode cX6_halve 14 = .ok (.iconst (-1), 1) := by decide +kernel
theorem dX6_halve_15 : decode cX6_halve 15 = .ok (.ireturn, 1) := by decide +kernel
theorem dX6_halve_16 : decode cX6_halve 16 = .ok (.aload_n 0, 1) := by decide +kernel
theorem dX6_halve_17 : decode cX6_halve 17 = .ok (.iload_n 1, 1) := by decide +kernel
theorem dX6_halve_18 : decode cX6_halve 18 = .ok (.aload_n 0, 1) := by decide +kernel
theorem dX6_halve_19 : decode cX6_halve 19 = .ok (.getfield 10, 3) := by decide +kernel
theorem dX6_halve_22 : decode cX6_halve 22 = .ok (.iload_n 1, 1) := by decide +kernel
theorem dX6_halve_23 : decode cX6_halve 23 = .ok (.invokevirtual 94, 3) := by decide +kernel
theorem dX6_halve_26 : decode cX6_halve 26 = .ok (.iload_n 2, 1) := by decide +kernel
theorem dX6_halve_27 : decode cX6_halve 27 = .ok (.invokestatic 113, 3) := by decide +kernel
theorem dX6_halve_30 : decode cX6_halve 30 = .ok (.invokevirtual 80, 3) := by decide +kernel
theorem dX6_halve_33 : decode cX6_halve 33 = .ok (.invokestatic 84, 3) := by decide +kernel
theorem dX6_halve_36 : decode cX6_halve 36 = .ok (.ireturn, 1) := by decide +kernel
theorem dX6_grow_0 : decode cX6_grow 0 = .ok (.iload_n 1, 1) := by decide +kernel
theorem dX6_grow_1 : decode cX6_grow 1 = .ok (.invokestatic 73, 3) := by decide +kernel
theorem dX6_grow_4 : decode cX6_grow 4 = .ok (.ifCond .eq 10, 3) := by decide +kernel
theorem dX6_grow_7 : decode cX6_grow 7 = .ok (.iload_n 2, 1) := by decide +kernel
theorem dX6_grow_8 : decode cX6_grow 8 = .ok (.invokestatic 110, 3) := by decide +kernel
theorem dX6_grow_11 : decode cX6_grow 11 = .ok (.ifCond .ne 5, 3) := by decide +kernel
theorem dX6_grow_14 : decode cX6_grow 14 = .ok (.iconst (-1), 1) := by decide +kernel
theorem dX6_grow_15 : decode cX6_grow 15 = .ok (.ireturn, 1) := by decide +kernel
theorem dX6_grow_16 : decode cX6_grow 16 = .ok (.aload_n 0, 1) := by decide +kernel
theorem dX6_grow_17 : decode cX6_grow 17 = .ok (.iload_n 1, 1) := by decide +kernel
theorem dX6_grow_18 : decode cX6_grow 18 = .ok (.aload_n 0, 1) := by decide +kernel
theorem dX6_grow_19 : decode cX6_grow 19 = .ok (.getfield 10, 3) := by decide +kernel
theorem dX6_grow_22 : decode cX6_grow 22 = .ok (.iload_n 1, 1) := by decide +kernel
theorem dX6_grow_23 : decode cX6_grow 23 = .ok (.invokevirtual 94, 3) := by decide +kernel
theorem dX6_grow_26 : decode cX6_grow 26 = .ok (.iload_n 2, 1) := by decide +kernel
theorem dX6_grow_27 : decode cX6_grow 27 = .ok (.invokestatic 117, 3) := by decide +kernel
theorem dX6_grow_30 : decode cX6_grow 30 = .ok (.invokevirtual 80, 3) := by decide +kernel
theorem dX6_grow_33 : decode cX6_grow 33 = .ok (.invokestatic 84, 3) := by decide +kernel
theorem dX6_grow_36 : decode cX6_grow 36 = .ok (.ireturn, 1) := by decide +kernel
theorem dX6_undo_0 : decode cX6_undo 0 = .ok (.aload_n 0, 1) := by decide +kernel
theorem dX6_undo_1 : decode cX6_undo 1 = .ok (.getfield 33, 3) := by decide +kernel
theorem dX6_undo_4 : decode cX6_undo 4 = .ok (.invokevirtual 120, 3) := by decide +kernel
theorem dX6_undo_7 : decode cX6_undo 7 = .ok (.ifCond .ne 6, 3) := by decide +kernel
theorem dX6_undo_10 : decode cX6_undo 10 = .ok (.bipush (-3), 2) := by decide +kernel
theorem dX6_undo_12 : decode cX6_undo 12 = .ok (.ireturn, 1) := by decide +kernel
theorem dX6_undo_13 : decode cX6_undo 13 = .ok (.aload_n 0, 1) := by decide +kernel
theorem dX6_undo_14 : decode cX6_undo 14 = .ok (.getfield 10, 3) := by decide +kernel
theorem dX6_undo_17 : decode cX6_undo 17 = .ok (.aload_n 0, 1) := by decide +kernel
theorem dX6_undo_18 : decode cX6_undo 18 = .ok (.getfield 33, 3) := by decide +kernel
theorem dX6_undo_21 : decode cX6_undo 21 = .ok (.invokevirtual 121, 3) := by decide +kernel
theorem dX6_undo_24 : decode cX6_undo 24 = .ok (.aload_n 0, 1) := by decide +kernel
theorem dX6_undo_25 : decode cX6_undo 25 = .ok (.getfield 33, 3) := by decide +kernel
theorem dX6_undo_28 : decode cX6_undo 28 = .ok (.invokevirtual 124, 3) := by decide +kernel
theorem dX6_undo_31 : decode cX6_undo 31 = .ok (.invokevirtual 127, 3) := by decide +kernel
theorem dX6_undo_34 : decode cX6_undo 34 = .ok (.aload_n 0, 1) := by decide +kernel
theorem dX6_undo_35 : decode cX6_undo 35 = .ok (.getfield 33, 3) := by decide +kernel
theorem dX6_undo_38 : decode cX6_undo 38 = .ok (.invokevirtual 131, 3) := by decide +kernel
theorem dX6_undo_41 : decode cX6_undo 41 = .ok (.aload_n 0, 1) := by decide +kernel
theorem dX6_undo_42 : decode cX6_undo 42 = .ok (.getfield 33, 3) := by decide +kernel
theorem dX6_undo_45 : decode cX6_undo 45 = .ok (.invokevirtual 120, 3) := by decide +kernel
theorem dX6_undo_48 : decode cX6_undo 48 = .ok (.ireturn, 1) := by decide +kernel
theorem dX6_black_0 : decode cX6_black 0 = .ok (.aload_n 0, 1) := by decide +kernel
theorem dX6_black_1 : decode cX6_black 1 = .ok (.getfield 10, 3) := by decide +kernel
theorem dX6_black_4 : decode cX6_black 4 = .ok (.iload_n 1, 1) := by decide +kernel
theorem dX6_black_5 : decode cX6_black 5 = .ok (.invokevirtual 94, 3) := by decide +kernel
theorem dX6_black_8 : decode cX6_black 8 = .ok (.lreturn, 1) := by decide +kernel
theorem dX6_look_0 : decode cX6_look 0 = .ok (.iload_n 1, 1) := by decide +kernel
theorem dX6_look_1 : decode cX6_look 1 = .ok (.invokestatic 73, 3) := by decide +kernel
theorem dX6_look_4 : decode cX6_look 4 = .ok (.ifCond .ne 5, 3) := by decide +kernel
theorem dX6_look_7 : decode cX6_look 7 = .ok (.iconst (-1), 1) := by decide +kernel
theorem dX6_look_8 : decode cX6_look 8 = .ok (.ireturn, 1) := by decide +kernel
theorem dX6_look_9 : decode cX6_look 9 = .ok (.aload_n 0, 1) := by decide +kernel
theorem dX6_look_10 : decode cX6_look 10 = .ok (.getfield 10, 3) := by decide +kernel
theorem dX6_look_13 : decode cX6_look 13 = .ok (.iload_n 1, 1) := by decide +kernel
theorem dX6_look_14 : decode cX6_look 14 = .ok (.invokevirtual 94, 3) := by decide +kernel
theorem dX6_look_17 : decode cX6_look 17 = .ok (.lstore_n 3, 1) := by decide +kernel
theorem dX6_look_18 : decode cX6_look 18 = .ok (.iload_n 2, 1) := by decide +kernel
theorem dX6_look_19 : decode cX6_look 19 = .ok (.tableswitch 62 0 4 #[33, 38, 47, 52, 57], 33) := by decide +kernel
theorem dX6_look_52 : decode cX6_look 52 = .ok (.lload_n 3, 1) := by decide +kernel
theorem dX6_look_53 : decode cX6_look 53 = .ok (.invokestatic 84, 3) := by decide +kernel
theorem dX6_look_56 : decode cX6_look 56 = .ok (.ireturn, 1) := by decide +kernel
theorem dX6_look_57 : decode cX6_look 57 = .ok (.aload_n 0, 1) := by decide +kernel
theorem dX6_look_58 : decode cX6_look 58 = .ok (.getfield 47, 3) := by decide +kernel
theorem dX6_look_61 : decode cX6_look 61 = .ok (.lload_n 3, 1) := by decide +kernel
theorem dX6_look_62 : decode cX6_look 62 = .ok (.invokevirtual 134, 3) := by decide +kernel
theorem dX6_look_65 : decode cX6_look 65 = .ok (.ireturn, 1) := by decide +kernel
theorem dX6_look_66 : decode cX6_look 66 = .ok (.lload_n 3, 1) := by decide +kernel
theorem dX6_look_67 : decode cX6_look 67 = .ok (.invokestatic 137, 3) := by decide +kernel
theorem dX6_look_70 : decode cX6_look 70 = .ok (.ireturn, 1) := by decide +kernel
theorem dX6_look_71 : decode cX6_look 71 = .ok (.lload_n 3, 1) := by decide +kernel
theorem dX6_look_72 : decode cX6_look 72 = .ok (.invokestatic 140, 3) := by decide +kernel
theorem dX6_look_75 : decode cX6_look 75 = .ok (.ireturn, 1) := by decide +kernel
theorem dX6_look_76 : decode cX6_look 76 = .ok (.lload_n 3, 1) := by decide +kernel
theorem dX6_look_77 : decode cX6_look 77 = .ok (.invokestatic 143, 3) := by decide +kernel
theorem dX6_look_80 : decode cX6_look 80 = .ok (.ireturn, 1) := by decide +kernel
theorem dX6_look_81 : decode cX6_look 81 = .ok (.bipush (-2), 2) := by decide +kernel
theorem dX6_look_83 : decode cX6_look 83 = .ok (.ireturn, 1) := by decide +kernel
theorem dX6_letter_0 : decode cX6_letter 0 = .ok (.iload_n 1, 1) := by decide +kernel
theorem dX6_letter_1 : decode cX6_letter 1 = .ok (.invokestatic 73, 3) := by decide +kernel
theorem dX6_letter_4 : decode cX6_letter 4 = .ok (.ifCond .ne 5, 3) := by decide +kernel
theorem dX6_letter_7 : decode cX6_letter 7 = .ok (.iconst (-1), 1) := by decide +kernel
theorem dX6_letter_8 : decode cX6_letter 8 = .ok (.ireturn, 1) := by decide +kernel
theorem dX6_letter_9 : decode cX6_letter 9 = .ok (.aload_n 0, 1) := by decide +kernel
theorem dX6_letter_10 : decode cX6_letter 10 = .ok (.getfield 47, 3) := by decide +kernel
theorem dX6_letter_13 : decode cX6_letter 13 = .ok (.aload_n 0, 1) := by decide +kernel
theorem dX6_letter_14 : decode cX6_letter 14 = .ok (.getfield 10, 3) := by decide +kernel
theorem dX6_letter_17 : decode cX6_letter 17 = .ok (.iload_n 1, 1) := by decide +kernel
theorem dX6_letter_18 : decode cX6_letter 18 = .ok (.invokevirtual 94, 3) := by decide +kernel
theorem dX6_letter_21 : decode cX6_letter 21 = .ok (.iload_n 2, 1) := by decide +kernel
theorem dX6_letter_22 : decode cX6_letter 22 = .ok (.invokevirtual 146, 3) := by decide +kernel
theorem dX6_letter_25 : decode cX6_letter 25 = .ok (.ireturn, 1) := by decide +kernel
theorem dX6_at_0 : decode cX6_at 0 = .ok (.iload_n 1, 1) := by decide +kernel
theorem dX6_at_1 : decode cX6_at 1 = .ok (.invokestatic 73, 3) := by decide +kernel
theorem dX6_at_4 : decode cX6_at 4 = .ok (.ifCond .eq 10, 3) := by decide +kernel
theorem dX6_at_7 : decode cX6_at 7 = .ok (.iload_n 2, 1) := by decide +kernel
theorem dX6_at_8 : decode cX6_at 8 = .ok (.invokestatic 150, 3) := by decide +kernel
theorem dX6_at_11 : decode cX6_at 11 = .ok (.ifCond .ne 5, 3) := by decide +kernel
theorem dX6_at_14 : decode cX6_at 14 = .ok (.iconst (-1), 1) := by decide +kernel
theorem dX6_at_15 : decode cX6_at 15 = .ok (.ireturn, 1) := by decide +kernel
theorem dX6_at_16 : decode cX6_at 16 = .ok (.aload_n 0, 1) := by decide +kernel
theorem dX6_at_17 : decode cX6_at 17 = .ok (.getfield 10, 3) := by decide +kernel
theorem dX6_at_20 : decode cX6_at 20 = .ok (.iload_n 1, 1) := by decide +kernel
theorem dX6_at_21 : decode cX6_at 21 = .ok (.invokevirtual 94, 3) := by decide +kernel
theorem dX6_at_24 : decode cX6_at 24 = .ok (.lstore 4, 2) := by decide +kernel
theorem dX6_at_26 : decode cX6_at 26 = .ok (.iload_n 3, 1) := by decide +kernel
theorem dX6_at_27 : decode cX6_at 27 = .ok (.tableswitch 63 0 2 #[25, 40, 47], 25) := by decide +kernel
theorem dX6_at_52 : decode cX6_at 52 = .ok (.lload 4, 2) := by decide +kernel
theorem dX6_at_54 : decode cX6_at 54 = .ok (.iload_n 2, 1) := by decide +kernel
theorem dX6_at_55 : decode cX6_at 55 = .ok (.invokestatic 153, 3) := by decide +kernel
theorem dX6_at_58 : decode cX6_at 58 = .ok (.ifCond .eq 7, 3) := by decide +kernel
theorem dX6_at_61 : decode cX6_at 61 = .ok (.iconst 1, 1) := by decide +kernel
theorem dX6_at_62 : decode cX6_at 62 = .ok (.goto 4, 3) := by decide +kernel
theorem dX6_at_65 : decode cX6_at 65 = .ok (.iconst 0, 1) := by decide +kernel
theorem dX6_at_66 : decode cX6_at 66 = .ok (.ireturn, 1) := by decide +kernel
theorem dX6_at_67 : decode cX6_at 67 = .ok (.lload 4, 2) := by decide +kernel
theorem dX6_at_69 : decode cX6_at 69 = .ok (.iload_n 2, 1) := by decide +kernel
theorem dX6_at_70 : decode cX6_at 70 = .ok (.invokestatic 157, 3) := by decide +kernel
theorem dX6_at_73 : decode cX6_at 73 = .ok (.ireturn, 1) := by decide +kernel
theorem dX6_at_74 : decode cX6_at 74 = .ok (.lload 4, 2) := by decide +kernel
theorem dX6_at_76 : decode cX6_at 76 = .ok (.iload_n 2, 1) := by decide +kernel
theorem dX6_at_77 : decode cX6_at 77 = .ok (.lload 4, 2) := by decide +kernel
theorem dX6_at_79 : decode cX6_at 79 = .ok (.iload_n 2, 1) := by decide +kernel
theorem dX6_at_80 : decode cX6_at 80 = .ok (.invokestatic 157, 3) := by decide +kernel
theorem dX6_at_83 : decode cX6_at 83 = .ok (.invokestatic 160, 3) := by decide +kernel
theorem dX6_at_86 : decode cX6_at 86 = .ok (.invokestatic 164, 3) := by decide +kernel
theorem dX6_at_89 : decode cX6_at 89 = .ok (.ireturn, 1) := by decide +kernel
theorem dX6_at_90 : decode cX6_at 90 = .ok (.bipush (-2), 2) := by decide +kernel
theorem dX6_at_92 : decode cX6_at 92 = .ok (.ireturn, 1) := by decide +kernel
theorem dX6_alike_0 : decode cX6_alike 0 = .ok (.iload_n 1, 1) := by decide +kernel
theorem dX6_alike_1 : decode cX6_alike 1 = .ok (.invokestatic 73, 3) := by decide +kernel
theorem dX6_alike_4 : decode cX6_alike 4 = .ok (.ifCond .eq 10, 3) := by decide +kernel
theorem dX6_alike_7 : decode cX6_alike 7 = .ok (.iload_n 2, 1) := by decide +kernel
theorem dX6_alike_8 : decode cX6_alike 8 = .ok (.invokestatic 73, 3) := by decide +kernel
theorem dX6_alike_11 : decode cX6_alike 11 = .ok (.ifCond .ne 5, 3) := by decide +kernel
theorem dX6_alike_14 : decode cX6_alike 14 = .ok (.iconst (-1), 1) := by decide +kernel
theorem dX6_alike_15 : decode cX6_alike 15 = .ok (.ireturn, 1) := by decide +kernel
theorem dX6_alike_16 : decode cX6_alike 16 = .ok (.aload_n 0, 1) := by decide +kernel
theorem dX6_alike_17 : decode cX6_alike 17 = .ok (.getfield 10, 3) := by decide +kernel
theorem dX6_alike_20 : decode cX6_alike 20 = .ok (.iload_n 1, 1) := by decide +kernel
theorem dX6_alike_21 : decode cX6_alike 21 = .ok (.invokevirtual 94, 3) := by decide +kernel
theorem dX6_alike_24 : decode cX6_alike 24 = .ok (.aload_n 0, 1) := by decide +kernel
theorem dX6_alike_25 : decode cX6_alike 25 = .ok (.getfield 10, 3) := by decide +kernel
theorem dX6_alike_28 : decode cX6_alike 28 = .ok (.iload_n 2, 1) := by decide +kernel
theorem dX6_alike_29 : decode cX6_alike 29 = .ok (.invokevirtual 94, 3) := by decide +kernel
theorem dX6_alike_32 : decode cX6_alike 32 = .ok (.invokestatic 168, 3) := by decide +kernel
theorem dX6_alike_35 : decode cX6_alike 35 = .ok (.ireturn, 1) := by decide +kernel
theorem dX6_near_0 : decode cX6_near 0 = .ok (.iload_n 1, 1) := by decide +kernel
theorem dX6_near_1 : decode cX6_near 1 = .ok (.invokestatic 73, 3) := by decide +kernel
theorem dX6_near_4 : decode cX6_near 4 = .ok (.ifCond .eq 10, 3) := by decide +kernel
theorem dX6_near_7 : decode cX6_near 7 = .ok (.iload_n 2, 1) := by decide +kernel
theorem dX6_near_8 : decode cX6_near 8 = .ok (.invokestatic 73, 3) := by decide +kernel
theorem dX6_near_11 : decode cX6_near 11 = .ok (.ifCond .ne 5, 3) := by decide +kernel
theorem dX6_near_14 : decode cX6_near 14 = .ok (.iconst (-1), 1) := by decide +kernel
theorem dX6_near_15 : decode cX6_near 15 = .ok (.ireturn, 1) := by decide +kernel
theorem dX6_near_16 : decode cX6_near 16 = .ok (.iload_n 3, 1) := by decide +kernel
theorem dX6_near_17 : decode cX6_near 17 = .ok (.ifCond .eq 11, 3) := by decide +kernel
theorem dX6_near_20 : decode cX6_near 20 = .ok (.iload_n 3, 1) := by decide +kernel
theorem dX6_near_21 : decode cX6_near 21 = .ok (.iconst 1, 1) := by decide +kernel
theorem dX6_near_22 : decode cX6_near 22 = .ok (.if_icmp .eq 6, 3) := by decide +kernel
theorem dX6_near_25 : decode cX6_near 25 = .ok (.bipush (-2), 2) := by decide +kernel
theorem dX6_near_27 : decode cX6_near 27 = .ok (.ireturn, 1) := by decide +kernel
theorem dX6_near_28 : decode cX6_near 28 = .ok (.aload_n 0, 1) := by decide +kernel
theorem dX6_near_29 : decode cX6_near 29 = .ok (.getfield 10, 3) := by decide +kernel
theorem dX6_near_32 : decode cX6_near 32 = .ok (.iload_n 1, 1) := by decide +kernel
theorem dX6_near_33 : decode cX6_near 33 = .ok (.invokevirtual 94, 3) := by decide +kernel
theorem dX6_near_36 : decode cX6_near 36 = .ok (.aload_n 0, 1) := by decide +kernel
theorem dX6_near_37 : decode cX6_near 37 = .ok (.getfield 10, 3) := by decide +kernel
theorem dX6_near_40 : decode cX6_near 40 = .ok (.iload_n 2, 1) := by decide +kernel
theorem dX6_near_41 : decode cX6_near 41 = .ok (.invokevirtual 94, 3) := by decide +kernel
theorem dX6_near_44 : decode cX6_near 44 = .ok (.invokestatic 171, 3) := by decide +kernel
theorem dX6_near_47 : decode cX6_near 47 = .ok (.istore 4, 2) := by decide +kernel
theorem dX6_near_49 : decode cX6_near 49 = .ok (.iload_n 3, 1) := by decide +kernel
theorem dX6_near_50 : decode cX6_near 50 = .ok (.iconst 1, 1) := by decide +kernel
theorem dX6_near_51 : decode cX6_near 51 = .ok (.if_icmp .ne 8, 3) := by decide +kernel
theorem dX6_near_54 : decode cX6_near 54 = .ok (.iload 4, 2) := by decide +kernel
theorem dX6_near_56 : decode cX6_near 56 = .ok (.goto 24, 3) := by decide +kernel
theorem dX6_near_59 : decode cX6_near 59 = .ok (.aload_n 0, 1) := by decide +kernel
theorem dX6_near_60 : decode cX6_near 60 = .ok (.getfield 10, 3) := by decide +kernel
theorem dX6_near_63 : decode cX6_near 63 = .ok (.iload_n 1, 1) := by decide +kernel
theorem dX6_near_64 : decode cX6_near 64 = .ok (.invokevirtual 94, 3) := by decide +kernel
theorem dX6_near_67 : decode cX6_near 67 = .ok (.aload_n 0, 1) := by decide +kernel
theorem dX6_near_68 : decode cX6_near 68 = .ok (.getfield 10, 3) := by decide +kernel
theorem dX6_near_71 : decode cX6_near 71 = .ok (.iload_n 2, 1) := by decide +kernel
theorem dX6_near_72 : decode cX6_near 72 = .ok (.invokevirtual 94, 3) := by decide +kernel
theorem dX6_near_75 : decode cX6_near 75 = .ok (.iload 4, 2) := by decide +kernel
theorem dX6_near_77 : decode cX6_near 77 = .ok (.invokestatic 174, 3) := by decide +kernel
theorem dX6_near_80 : decode cX6_near 80 = .ok (.ireturn, 1) := by decide +kernel
theorem dX6_judge_0 : decode cX6_judge 0 = .ok (.iload_n 1, 1) := by decide +kernel
theorem dX6_judge_1 : decode cX6_judge 1 = .ok (.iconst 1, 1) := by decide +kernel
theorem dX6_judge_2 : decode cX6_judge 2 = .ok (.if_icmp .lt 23, 3) := by decide +kernel
theorem dX6_judge_5 : decode cX6_judge 5 = .ok (.iload_n 1, 1) := by decide +kernel
theorem dX6_judge_6 : decode cX6_judge 6 = .ok (.iconst 4, 1) := by decide +kernel
theorem dX6_judge_7 : decode cX6_judge 7 = .ok (.if_icmp .gt 18, 3) := by decide +kernel
theorem dX6_judge_10 : decode cX6_judge 10 = .ok (.lload_n 2, 1) := by decide +kernel
theorem dX6_judge_11 : decode cX6_judge 11 = .ok (.lconst 0, 1) := by decide +kernel
theorem dX6_judge_12 : decode cX6_judge 12 = .ok (.lcmp, 1) := by decide +kernel
theorem dX6_judge_13 : decode cX6_judge 13 = .ok (.ifCond .lt 12, 3) := by decide +kernel
theorem dX6_judge_16 : decode cX6_judge 16 = .ok (.aload_n 0, 1) := by decide +kernel
theorem dX6_judge_17 : decode cX6_judge 17 = .ok (.iload_n 1, 1) := by decide +kernel
theorem dX6_judge_18 : decode cX6_judge 18 = .ok (.lload_n 2, 1) := by decide +kernel
theorem dX6_judge_19 : decode cX6_judge 19 = .ok (.invokevirtual 178, 3) := by decide +kernel
theorem dX6_judge_22 : decode cX6_judge 22 = .ok (.ifCond .ne 6, 3) := by decide +kernel
theorem dX6_judge_25 : decode cX6_judge 25 = .ok (.bipush (-2), 2) := by decide +kernel
theorem dX6_judge_27 : decode cX6_judge 27 = .ok (.ireturn, 1) := by decide +kernel
theorem dX6_judge_28 : decode cX6_judge 28 = .ok (.aload_n 0, 1) := by decide +kernel
theorem dX6_judge_29 : decode cX6_judge 29 = .ok (.getfield 16, 3) := by decide +kernel
theorem dX6_judge_32 : decode cX6_judge 32 = .ok (.aload_n 0, 1) := by decide +kernel
theorem dX6_judge_33 : decode cX6_judge 33 = .ok (.getfield 10, 3) := by decide +kernel
theorem dX6_judge_36 : decode cX6_judge 36 = .ok (.invokevirtual 182, 3) := by decide +kernel
theorem dX6_judge_39 : decode cX6_judge 39 = .ok (.iconst 0, 1) := by decide +kernel
theorem dX6_judge_40 : decode cX6_judge 40 = .ok (.istore 4, 2) := by decide +kernel
theorem dX6_judge_42 : decode cX6_judge 42 = .ok (.iload 4, 2) := by decide +kernel
theorem dX6_judge_44 : decode cX6_judge 44 = .ok (.iload_n 1, 1) := by decide +kernel
theorem dX6_judge_45 : decode cX6_judge 45 = .ok (.if_icmp .ge 49, 3) := by decide +kernel
theorem dX6_judge_48 : decode cX6_judge 48 = .ok (.aload_n 0, 1) := by decide +kernel
theorem dX6_judge_49 : decode cX6_judge 49 = .ok (.getfield 51, 3) := by decide +kernel
theorem dX6_judge_52 : decode cX6_judge 52 = .ok (.iload 4, 2) := by decide +kernel
theorem dX6_judge_54 : decode cX6_judge 54 = .ok (.iaload, 1) := by decide +kernel
theorem dX6_judge_55 : decode cX6_judge 55 = .ok (.istore 5, 2) := by decide +kernel
theorem dX6_judge_57 : decode cX6_judge 57 = .ok (.aload_n 0, 1) := by decide +kernel
theorem dX6_judge_58 : decode cX6_judge 58 = .ok (.getfield 16, 3) := by decide +kernel
theorem dX6_judge_61 : decode cX6_judge 61 = .ok (.iload 5, 2) := by decide +kernel
theorem dX6_judge_63 : decode cX6_judge 63 = .ok (.bipush 100, 2) := by decide +kernel
theorem dX6_judge_65 : decode cX6_judge 65 = .ok (.idiv, 1) := by decide +kernel
theorem dX6_judge_66 : decode cX6_judge 66 = .ok (.iload 5, 2) := by decide +kernel
theorem dX6_judge_68 : decode cX6_judge 68 = .ok (.bipush 10, 2) := by decide +kernel
theorem dX6_judge_70 : decode cX6_judge 70 = .ok (.idiv, 1) := by decide +kernel
theorem dX6_judge_71 : decode cX6_judge 71 = .ok (.bipush 10, 2) := by decide +kernel
theorem dX6_judge_73 : decode cX6_judge 73 = .ok (.irem, 1) := by decide +kernel
theorem dX6_judge_74 : decode cX6_judge 74 = .ok (.iload 5, 2) := by decide +kernel
theorem dX6_judge_76 : decode cX6_judge 76 = .ok (.bipush 10, 2) := by decide +kernel
theorem dX6_judge_78 : decode cX6_judge 78 = .ok (.irem, 1) := by decide +kernel
theorem dX6_judge_79 : decode cX6_judge 79 = .ok (.invokevirtual 186, 3) := by decide +kernel
theorem dX6_judge_82 : decode cX6_judge 82 = .ok (.ifCond .ne 6, 3) := by decide +kernel
theorem dX6_judge_85 : decode cX6_judge 85 = .ok (.iload 4, 2) := by decide +kernel
theorem dX6_judge_87 : decode cX6_judge 87 = .ok (.ireturn, 1) := by decide +kernel
theorem dX6_judge_88 : decode cX6_judge 88 = .ok (.iinc 4 1, 3) := by decide +kernel
theorem dX6_judge_91 : decode cX6_judge 91 = .ok (.goto (-49), 3) := by decide +kernel
theorem dX6_judge_94 : decode cX6_judge 94 = .ok (.bipush (-9), 2) := by decide +kernel
theorem dX6_judge_96 : decode cX6_judge 96 = .ok (.ireturn, 1) := by decide +kernel
theorem dX6_see_0 : decode cX6_see 0 = .ok (.iload_n 1, 1) := by decide +kernel
theorem dX6_see_1 : decode cX6_see 1 = .ok (.invokestatic 150, 3) := by decide +kernel
theorem dX6_see_4 : decode cX6_see 4 = .ok (.ifCond .ne 5, 3) := by decide +kernel
theorem dX6_see_7 : decode cX6_see 7 = .ok (.iconst (-1), 1) := by decide +kernel
theorem dX6_see_8 : decode cX6_see 8 = .ok (.ireturn, 1) := by decide +kernel
theorem dX6_see_9 : decode cX6_see 9 = .ok (.iload_n 2, 1) := by decide +kernel
theorem dX6_see_10 : decode cX6_see 10 = .ok (.ifCond .eq 11, 3) := by decide +kernel
theorem dX6_see_13 : decode cX6_see 13 = .ok (.iload_n 2, 1) := by decide +kernel
theorem dX6_see_14 : decode cX6_see 14 = .ok (.iconst 1, 1) := by decide +kernel
theorem dX6_see_15 : decode cX6_see 15 = .ok (.if_icmp .eq 6, 3) := by decide +kernel
theorem dX6_see_18 : decode cX6_see 18 = .ok (.bipush (-2), 2) := by decide +kernel
theorem dX6_see_20 : decode cX6_see 20 = .ok (.ireturn, 1) := by decide +kernel
theorem dX6_see_21 : decode cX6_see 21 = .ok (.aload_n 0, 1) := by decide +kernel
theorem dX6_see_22 : decode cX6_see 22 = .ok (.getfield 40, 3) := by decide +kernel
theorem dX6_see_25 : decode cX6_see 25 = .ok (.iload_n 1, 1) := by decide +kernel
theorem dX6_see_26 : decode cX6_see 26 = .ok (.iload_n 2, 1) := by decide +kernel
theorem dX6_see_27 : decode cX6_see 27 = .ok (.iconst 1, 1) := by decide +kernel
theorem dX6_see_28 : decode cX6_see 28 = .ok (.if_icmp .ne 7, 3) := by decide +kernel
theorem dX6_see_31 : decode cX6_see 31 = .ok (.iconst 1, 1) := by decide +kernel
theorem dX6_see_32 : decode cX6_see 32 = .ok (.goto 4, 3) := by decide +kernel
theorem dX6_see_35 : decode cX6_see 35 = .ok (.iconst 0, 1) := by decide +kernel
theorem dX6_see_36 : decode cX6_see 36 = .ok (.invokevirtual 190, 3) := by decide +kernel
theorem dX6_see_39 : decode cX6_see 39 = .ok (.ifCond .eq 13, 3) := by decide +kernel
theorem dX6_see_42 : decode cX6_see 42 = .ok (.aload_n 0, 1) := by decide +kernel
theorem dX6_see_43 : decode cX6_see 43 = .ok (.getfield 40, 3) := by decide +kernel
theorem dX6_see_46 : decode cX6_see 46 = .ok (.invokevirtual 193, 3) := by decide +kernel
theorem dX6_see_49 : decode cX6_see 49 = .ok (.goto 5, 3) := by decide +kernel
theorem dX6_see_52 : decode cX6_see 52 = .ok (.bipush (-4), 2) := by decide +kernel
theorem dX6_see_54 : decode cX6_see 54 = .ok (.ireturn, 1) := by decide +kernel
theorem dX6_unsee_0 : decode cX6_unsee 0 = .ok (.aload_n 0, 1) := by decide +kernel
theorem dX6_unsee_1 : decode cX6_unsee 1 = .ok (.getfield 40, 3) := by decide +kernel
theorem dX6_unsee_4 : decode cX6_unsee 4 = .ok (.invokevirtual 193, 3) := by decide +kernel
theorem dX6_unsee_7 : decode cX6_unsee 7 = .ok (.istore_n 1, 1) := by decide +kernel
theorem dX6_unsee_8 : decode cX6_unsee 8 = .ok (.aload_n 0, 1) := by decide +kernel
theorem dX6_unsee_9 : decode cX6_unsee 9 = .ok (.getfield 40, 3) := by decide +kernel
theorem dX6_unsee_12 : decode cX6_unsee 12 = .ok (.invokevirtual 194, 3) := by decide +kernel
theorem dX6_unsee_15 : decode cX6_unsee 15 = .ok (.iload_n 1, 1) := by decide +kernel
theorem dX6_unsee_16 : decode cX6_unsee 16 = .ok (.ireturn, 1) := by decide +kernel
theorem dX6_leaves_0 : decode cX6_leaves 0 = .ok (.iload_n 1, 1) := by decide +kernel
theorem dX6_leaves_1 : decode cX6_leaves 1 = .ok (.ifCond .ne 11, 3) := by decide +kernel
theorem dX6_leaves_4 : decode cX6_leaves 4 = .ok (.aload_n 0, 1) := by decide +kernel
theorem dX6_leaves_5 : decode cX6_leaves 5 = .ok (.getfield 40, 3) := by decide +kernel
theorem dX6_leaves_8 : decode cX6_leaves 8 = .ok (.invokevirtual 195, 3) := by decide +kernel
theorem dX6_leaves_11 : decode cX6_leaves 11 = .ok (.ireturn, 1) := by decide +kernel
theorem dX6_leaves_12 : decode cX6_leaves 12 = .ok (.iload_n 1, 1) := by decide +kernel
theorem dX6_leaves_13 : decode cX6_leaves 13 = .ok (.iconst 1, 1) := by decide +kernel
theorem dX6_leaves_14 : decode cX6_leaves 14 = .ok (.if_icmp .ne 13, 3) := by decide +kernel
theorem dX6_leaves_17 : decode cX6_leaves 17 = .ok (.aload_n 0, 1) := by decide +kernel
theorem dX6_leaves_18 : decode cX6_leaves 18 = .ok (.getfield 40, 3) := by decide +kernel
theorem dX6_leaves_21 : decode cX6_leaves 21 = .ok (.invokevirtual 198, 3) := by decide +kernel
theorem dX6_leaves_24 : decode cX6_leaves 24 = .ok (.goto 5, 3) := by decide +kernel
theorem dX6_leaves_27 : decode cX6_leaves 27 = .ok (.bipush (-2), 2) := by decide +kernel
theorem dX6_leaves_29 : decode cX6_leaves 29 = .ok (.ireturn, 1) := by decide +kernel
theorem dX6_share_0 : decode cX6_share 0 = .ok (.iload_n 1, 1) := by decide +kernel
theorem dX6_share_1 : decode cX6_share 1 = .ok (.invokestatic 73, 3) := by decide +kernel
theorem dX6_share_4 : decode cX6_share 4 = .ok (.ifCond .ne 5, 3) := by decide +kernel
theorem dX6_share_7 : decode cX6_share 7 = .ok (.iconst (-1), 1) := by decide +kernel
theorem dX6_share_8 : decode cX6_share 8 = .ok (.ireturn, 1) := by decide +kernel
theorem dX6_share_9 : decode cX6_share 9 = .ok (.iconst 0, 1) := by decide +kernel
theorem dX6_share_10 : decode cX6_share 10 = .ok (.istore_n 3, 1) := by decide +kernel
theorem dX6_share_11 : decode cX6_share 11 = .ok (.iconst 0, 1) := by decide +kernel
theorem dX6_share_12 : decode cX6_share 12 = .ok (.istore 4, 2) := by decide +kernel
theorem dX6_share_14 : decode cX6_share 14 = .ok (.iload 4, 2) := by decide +kernel
theorem dX6_share_16 : decode cX6_share 16 = .ok (.bipush 64, 2) := by decide +kernel
theorem dX6_share_18 : decode cX6_share 18 = .ok (.if_icmp .ge 40, 3) := by decide +kernel
theorem dX6_share_21 : decode cX6_share 21 = .ok (.aload_n 0, 1) := by decide +kernel
theorem dX6_share_22 : decode cX6_share 22 = .ok (.getfield 10, 3) := by decide +kernel
theorem dX6_share_25 : decode cX6_share 25 = .ok (.iload_n 1, 1) := by decide +kernel
theorem dX6_share_26 : decode cX6_share 26 = .ok (.invokevirtual 94, 3) := by decide +kernel
theorem dX6_share_29 : decode cX6_share 29 = .ok (.iload 4, 2) := by decide +kernel
theorem dX6_share_31 : decode cX6_share 31 = .ok (.invokestatic 153, 3) := by decide +kernel
theorem dX6_share_34 : decode cX6_share 34 = .ok (.ifCond .eq 18, 3) := by decide +kernel
theorem dX6_share_37 : decode cX6_share 37 = .ok (.iload_n 3, 1) := by decide +kernel
theorem dX6_share_38 : decode cX6_share 38 = .ok (.aload_n 0, 1) := by decide +kernel
theorem dX6_share_39 : decode cX6_share 39 = .ok (.getfield 10, 3) := by decide +kernel
theorem dX6_share_42 : decode cX6_share 42 = .ok (.iload 4, 2) := by decide +kernel
theorem dX6_share_44 : decode cX6_share 44 = .ok (.invokevirtual 201, 3) := by decide +kernel
theorem dX6_share_47 : decode cX6_share 47 = .ok (.invokestatic 205, 3) := by decide +kernel
theorem dX6_share_50 : decode cX6_share 50 = .ok (.iadd, 1) := by decide +kernel
theorem dX6_share_51 : decode cX6_share 51 = .ok (.istore_n 3, 1) := by decide +kernel
theorem dX6_share_52 : decode cX6_share 52 = .ok (.iinc 4 1, 3) := by decide +kernel
theorem dX6_share_55 : decode cX6_share 55 = .ok (.goto (-41), 3) := by decide +kernel
theorem dX6_share_58 : decode cX6_share 58 = .ok (.iload_n 3, 1) := by decide +kernel
theorem dX6_share_59 : decode cX6_share 59 = .ok (.bipush 6, 2) := by decide +kernel
theorem dX6_share_61 : decode cX6_share 61 = .ok (.iload_n 2, 1) := by decide +kernel
theorem dX6_share_62 : decode cX6_share 62 = .ok (.invokestatic 208, 3) := by decide +kernel
theorem dX6_share_65 : decode cX6_share 65 = .ok (.ireturn, 1) := by decide +kernel
theorem dX6_rests_0 : decode cX6_rests 0 = .ok (.iload_n 1, 1) := by decide +kernel
theorem dX6_rests_1 : decode cX6_rests 1 = .ok (.invokestatic 73, 3) := by decide +kernel
theorem dX6_rests_4 : decode cX6_rests 4 = .ok (.ifCond .eq 10, 3) := by decide +kernel
theorem dX6_rests_7 : decode cX6_rests 7 = .ok (.iload_n 2, 1) := by decide +kernel
theorem dX6_rests_8 : decode cX6_rests 8 = .ok (.invokestatic 73, 3) := by decide +kernel
theorem dX6_rests_11 : decode cX6_rests 11 = .ok (.ifCond .ne 5, 3) := by decide +kernel
theorem dX6_rests_14 : decode cX6_rests 14 = .ok (.iconst (-1), 1) := by decide +kernel
theorem dX6_rests_15 : decode cX6_rests 15 = .ok (.ireturn, 1) := by decide +kernel
theorem dX6_rests_16 : decode cX6_rests 16 = .ok (.iload_n 1, 1) := by decide +kernel
theorem dX6_rests_17 : decode cX6_rests 17 = .ok (.iload_n 2, 1) := by decide +kernel
theorem dX6_rests_18 : decode cX6_rests 18 = .ok (.if_icmp .eq 12, 3) := by decide +kernel
theorem dX6_rests_21 : decode cX6_rests 21 = .ok (.iload_n 3, 1) := by decide +kernel
theorem dX6_rests_22 : decode cX6_rests 22 = .ok (.ifCond .eq 11, 3) := by decide +kernel
theorem dX6_rests_25 : decode cX6_rests 25 = .ok (.iload_n 3, 1) := by decide +kernel
theorem dX6_rests_26 : decode cX6_rests 26 = .ok (.iconst 1, 1) := by decide +kernel
theorem dX6_rests_27 : decode cX6_rests 27 = .ok (.if_icmp .eq 6, 3) := by decide +kernel
theorem dX6_rests_30 : decode cX6_rests 30 = .ok (.bipush (-2), 2) := by decide +kernel
theorem dX6_rests_32 : decode cX6_rests 32 = .ok (.ireturn, 1) := by decide +kernel
theorem dX6_rests_33 : decode cX6_rests 33 = .ok (.iconst 0, 1) := by decide +kernel
theorem dX6_rests_34 : decode cX6_rests 34 = .ok (.istore 4, 2) := by decide +kernel
theorem dX6_rests_36 : decode cX6_rests 36 = .ok (.bipush (-9), 2) := by decide +kernel
theorem dX6_rests_38 : decode cX6_rests 38 = .ok (.istore 5, 2) := by decide +kernel
theorem dX6_rests_40 : decode cX6_rests 40 = .ok (.iconst 0, 1) := by decide +kernel
theorem dX6_rests_41 : decode cX6_rests 41 = .ok (.istore 6, 2) := by decide +kernel
theorem dX6_rests_43 : decode cX6_rests 43 = .ok (.iload 6, 2) := by decide +kernel
theorem dX6_rests_45 : decode cX6_rests 45 = .ok (.iconst 4, 1) := by decide +kernel
theorem dX6_rests_46 : decode cX6_rests 46 = .ok (.if_icmp .ge 53, 3) := by decide +kernel
theorem dX6_rests_49 : decode cX6_rests 49 = .ok (.aload_n 0, 1) := by decide +kernel
theorem dX6_rests_50 : decode cX6_rests 50 = .ok (.iload_n 1, 1) := by decide +kernel
theorem dX6_rests_51 : decode cX6_rests 51 = .ok (.iload_n 2, 1) := by decide +kernel
theorem dX6_rests_52 : decode cX6_rests 52 = .ok (.iload 6, 2) := by decide +kernel
theorem dX6_rests_54 : decode cX6_rests 54 = .ok (.iconst 2, 1) := by decide +kernel
theorem dX6_rests_55 : decode cX6_rests 55 = .ok (.idiv, 1) := by decide +kernel
theorem dX6_rests_56 : decode cX6_rests 56 = .ok (.iload 6, 2) := by decide +kernel
theorem dX6_rests_58 : decode cX6_rests 58 = .ok (.iconst 2, 1) := by decide +kernel
theorem dX6_rests_59 : decode cX6_rests 59 = .ok (.irem, 1) := by decide +kernel
theorem dX6_rests_60 : decode cX6_rests 60 = .ok (.invokevirtual 212, 3) := by decide +kernel
theorem dX6_rests_63 : decode cX6_rests 63 = .ok (.ifCond .eq 30, 3) := by decide +kernel
theorem dX6_rests_66 : decode cX6_rests 66 = .ok (.iload 4, 2) := by decide +kernel
theorem dX6_rests_68 : decode cX6_rests 68 = .ok (.ifCond .ne 18, 3) := by decide +kernel
theorem dX6_rests_71 : decode cX6_rests 71 = .ok (.bipush 10, 2) := by decide +kernel
theorem dX6_rests_73 : decode cX6_rests 73 = .ok (.iload 6, 2) := by decide +kernel
theorem dX6_rests_75 : decode cX6_rests 75 = .ok (.iconst 2, 1) := by decide +kernel
theorem dX6_rests_76 : decode cX6_rests 76 = .ok (.idiv, 1) := by decide +kernel
theorem dX6_rests_77 : decode cX6_rests 77 = .ok (.imul, 1) := by decide +kernel
theorem dX6_rests_78 : decode cX6_rests 78 = .ok (.iload 6, 2) := by decide +kernel
theorem dX6_rests_80 : decode cX6_rests 80 = .ok (.iconst 2, 1) := by decide +kernel
theorem dX6_rests_81 : decode cX6_rests 81 = .ok (.irem, 1) := by decide +kernel
theorem dX6_rests_82 : decode cX6_rests 82 = .ok (.iadd, 1) := by decide +kernel
theorem dX6_rests_83 : decode cX6_rests 83 = .ok (.goto 5, 3) := by decide +kernel
theorem dX6_rests_86 : decode cX6_rests 86 = .ok (.iload 5, 2) := by decide +kernel
theorem dX6_rests_88 : decode cX6_rests 88 = .ok (.istore 5, 2) := by decide +kernel
theorem dX6_rests_90 : decode cX6_rests 90 = .ok (.iinc 4 1, 3) := by decide +kernel
theorem dX6_rests_93 : decode cX6_rests 93 = .ok (.iinc 6 1, 3) := by decide +kernel
theorem dX6_rests_96 : decode cX6_rests 96 = .ok (.goto (-53), 3) := by decide +kernel
theorem dX6_rests_99 : decode cX6_rests 99 = .ok (.iload_n 3, 1) := by decide +kernel
theorem dX6_rests_100 : decode cX6_rests 100 = .ok (.ifCond .ne 8, 3) := by decide +kernel
theorem dX6_rests_103 : decode cX6_rests 103 = .ok (.iload 4, 2) := by decide +kernel
theorem dX6_rests_105 : decode cX6_rests 105 = .ok (.goto 5, 3) := by decide +kernel
theorem dX6_rests_108 : decode cX6_rests 108 = .ok (.iload 5, 2) := by decide +kernel
theorem dX6_rests_110 : decode cX6_rests 110 = .ok (.ireturn, 1) := by decide +kernel
theorem dX6_fades_0 : decode cX6_fades 0 = .ok (.iload_n 1, 1) := by decide +kernel
theorem dX6_fades_1 : decode cX6_fades 1 = .ok (.invokestatic 73, 3) := by decide +kernel
theorem dX6_fades_4 : decode cX6_fades 4 = .ok (.ifCond .ne 5, 3) := by decide +kernel
theorem dX6_fades_7 : decode cX6_fades 7 = .ok (.iconst (-1), 1) := by decide +kernel
theorem dX6_fades_8 : decode cX6_fades 8 = .ok (.ireturn, 1) := by decide +kernel
theorem dX6_fades_9 : decode cX6_fades 9 = .ok (.iload_n 2, 1) := by decide +kernel
theorem dX6_fades_10 : decode cX6_fades 10 = .ok (.ifCond .lt 19, 3) := by decide +kernel
theorem dX6_fades_13 : decode cX6_fades 13 = .ok (.iload_n 2, 1) := by decide +kernel
theorem dX6_fades_14 : decode cX6_fades 14 = .ok (.bipush 64, 2) := by decide +kernel
theorem dX6_fades_16 : decode cX6_fades 16 = .ok (.if_icmp .gt 13, 3) := by decide +kernel
theorem dX6_fades_19 : decode cX6_fades 19 = .ok (.iload_n 3, 1) := by decide +kernel
theorem dX6_fades_20 : decode cX6_fades 20 = .ok (.ifCond .lt 9, 3) := by decide +kernel
theorem dX6_fades_23 : decode cX6_fades 23 = .ok (.iload_n 3, 1) := by decide +kernel
theorem dX6_fades_24 : decode cX6_fades 24 = .ok (.bipush 10, 2) := by decide +kernel
theorem dX6_fades_26 : decode cX6_fades 26 = .ok (.if_icmp .le 6, 3) := by decide +kernel
theorem dX6_fades_29 : decode cX6_fades 29 = .ok (.bipush (-2), 2) := by decide +kernel
theorem dX6_fades_31 : decode cX6_fades 31 = .ok (.ireturn, 1) := by decide +kernel
theorem dX6_fades_32 : decode cX6_fades 32 = .ok (.iconst 0, 1) := by decide +kernel
theorem dX6_fades_33 : decode cX6_fades 33 = .ok (.istore 5, 2) := by decide +kernel
theorem dX6_fades_35 : decode cX6_fades 35 = .ok (.iconst 0, 1) := by decide +kernel
theorem dX6_fades_36 : decode cX6_fades 36 = .ok (.istore 6, 2) := by decide +kernel
theorem dX6_fades_38 : decode cX6_fades 38 = .ok (.iload 6, 2) := by decide +kernel
theorem dX6_fades_40 : decode cX6_fades 40 = .ok (.bipush 16, 2) := by decide +kernel
theorem dX6_fades_42 : decode cX6_fades 42 = .ok (.if_icmp .ge 37, 3) := by decide +kernel
theorem dX6_fades_45 : decode cX6_fades 45 = .ok (.aload_n 0, 1) := by decide +kernel
theorem dX6_fades_46 : decode cX6_fades 46 = .ok (.getfield 10, 3) := by decide +kernel
theorem dX6_fades_49 : decode cX6_fades 49 = .ok (.iload_n 1, 1) := by decide +kernel
theorem dX6_fades_50 : decode cX6_fades 50 = .ok (.invokevirtual 94, 3) := by decide +kernel
theorem dX6_fades_53 : decode cX6_fades 53 = .ok (.iload 6, 2) := by decide +kernel
theorem dX6_fades_55 : decode cX6_fades 55 = .ok (.invokestatic 216, 3) := by decide +kernel
theorem dX6_fades_58 : decode cX6_fades 58 = .ok (.iload_n 2, 1) := by decide +kernel
theorem dX6_fades_59 : decode cX6_fades 59 = .ok (.if_icmp .lt 14, 3) := by decide +kernel
theorem dX6_fades_62 : decode cX6_fades 62 = .ok (.iload 5, 2) := by decide +kernel
theorem dX6_fades_64 : decode cX6_fades 64 = .ok (.iload 6, 2) := by decide +kernel
theorem dX6_fades_66 : decode cX6_fades 66 = .ok (.iload_n 3, 1) := by decide +kernel
theorem dX6_fades_67 : decode cX6_fades 67 = .ok (.invokestatic 219, 3) := by decide +kernel
theorem dX6_fades_70 : decode cX6_fades 70 = .ok (.iadd, 1) := by decide +kernel
theorem dX6_fades_71 : decode cX6_fades 71 = .ok (.istore 5, 2) := by decide +kernel
theorem dX6_fades_73 : decode cX6_fades 73 = .ok (.iinc 6 1, 3) := by decide +kernel
theorem dX6_fades_76 : decode cX6_fades 76 = .ok (.goto (-38), 3) := by decide +kernel
theorem dX6_fades_79 : decode cX6_fades 79 = .ok (.iload 5, 2) := by decide +kernel
theorem dX6_fades_81 : decode cX6_fades 81 = .ok (.sipush 10000, 3) := by decide +kernel
theorem dX6_fades_84 : decode cX6_fades 84 = .ok (.iload 4, 2) := by decide +kernel
theorem dX6_fades_86 : decode cX6_fades 86 = .ok (.invokestatic 208, 3) := by decide +kernel
theorem dX6_fades_89 : decode cX6_fades 89 = .ok (.ireturn, 1) := by decide +kernel
theorem dX6_seed_0 : decode cX6_seed 0 = .ok (.aload_n 0, 1) := by decide +kernel
theorem dX6_seed_1 : decode cX6_seed 1 = .ok (.getfield 55, 3) := by decide +kernel
theorem dX6_seed_4 : decode cX6_seed 4 = .ok (.lstore_n 3, 1) := by decide +kernel
theorem dX6_seed_5 : decode cX6_seed 5 = .ok (.aload_n 0, 1) := by decide +kernel
theorem dX6_seed_6 : decode cX6_seed 6 = .ok (.lload_n 1, 1) := by decide +kernel
theorem dX6_seed_7 : decode cX6_seed 7 = .ok (.putfield 55, 3) := by decide +kernel
theorem dX6_seed_10 : decode cX6_seed 10 = .ok (.lload_n 3, 1) := by decide +kernel
theorem dX6_seed_11 : decode cX6_seed 11 = .ok (.lreturn, 1) := by decide +kernel
theorem dX6_years_0 : decode cX6_years 0 = .ok (.iload_n 1, 1) := by decide +kernel
theorem dX6_years_1 : decode cX6_years 1 = .ok (.iconst 1, 1) := by decide +kernel
theorem dX6_years_2 : decode cX6_years 2 = .ok (.if_icmp .lt 9, 3) := by decide +kernel
theorem dX6_years_5 : decode cX6_years 5 = .ok (.iload_n 1, 1) := by decide +kernel
theorem dX6_years_6 : decode cX6_years 6 = .ok (.bipush 30, 2) := by decide +kernel
theorem dX6_years_8 : decode cX6_years 8 = .ok (.if_icmp .le 6, 3) := by decide +kernel
theorem dX6_years_11 : decode cX6_years 11 = .ok (.bipush (-2), 2) := by decide +kernel
theorem dX6_years_13 : decode cX6_years 13 = .ok (.ireturn, 1) := by decide +kernel
theorem dX6_years_14 : decode cX6_years 14 = .ok (.aload_n 0, 1) := by decide +kernel
theorem dX6_years_15 : decode cX6_years 15 = .ok (.getfield 16, 3) := by decide +kernel
theorem dX6_years_18 : decode cX6_years 18 = .ok (.aload_n 0, 1) := by decide +kernel
theorem dX6_years_19 : decode cX6_years 19 = .ok (.getfield 10, 3) := by decide +kernel
theorem dX6_years_22 : decode cX6_years 22 = .ok (.invokevirtual 182, 3) := by decide +kernel
theorem dX6_years_25 : decode cX6_years 25 = .ok (.iconst 0, 1) := by decide +kernel
theorem dX6_years_26 : decode cX6_years 26 = .ok (.istore_n 2, 1) := by decide +kernel
theorem dX6_years_27 : decode cX6_years 27 = .ok (.iconst 0, 1) := by decide +kernel
theorem dX6_years_28 : decode cX6_years 28 = .ok (.istore_n 3, 1) := by decide +kernel
theorem dX6_years_29 : decode cX6_years 29 = .ok (.iload_n 3, 1) := by decide +kernel
theorem dX6_years_30 : decode cX6_years 30 = .ok (.iload_n 1, 1) := by decide +kernel
theorem dX6_years_31 : decode cX6_years 31 = .ok (.if_icmp .ge 51, 3) := by decide +kernel
theorem dX6_years_34 : decode cX6_years 34 = .ok (.aload_n 0, 1) := by decide +kernel
theorem dX6_years_35 : decode cX6_years 35 = .ok (.aload_n 0, 1) := by decide +kernel
theorem dX6_years_36 : decode cX6_years 36 = .ok (.getfield 55, 3) := by decide +kernel
theorem dX6_years_39 : decode cX6_years 39 = .ok (.ldc2_w 223, 3) := by decide +kernel
theorem dX6_years_42 : decode cX6_years 42 = .ok (.lmul, 1) := by decide +kernel
theorem dX6_years_43 : decode cX6_years 43 = .ok (.ldc2_w 225, 3) := by decide +kernel
theorem dX6_years_46 : decode cX6_years 46 = .ok (.ladd, 1) := by decide +kernel
theorem dX6_years_47 : decode cX6_years 47 = .ok (.putfield 55, 3) := by decide +kernel
theorem dX6_years_50 : decode cX6_years 50 = .ok (.aload_n 0, 1) := by decide +kernel
theorem dX6_years_51 : decode cX6_years 51 = .ok (.aload_n 0, 1) := by decide +kernel
theorem dX6_years_52 : decode cX6_years 52 = .ok (.getfield 55, 3) := by decide +kernel
theorem dX6_years_55 : decode cX6_years 55 = .ok (.bipush 33, 2) := by decide +kernel
theorem dX6_years_57 : decode cX6_years 57 = .ok (.lushr, 1) := by decide +kernel
theorem dX6_years_58 : decode cX6_years 58 = .ok (.ldc2_w 227, 3) := by decide +kernel
theorem dX6_years_61 : decode cX6_years 61 = .ok (.lrem, 1) := by decide +kernel
theorem dX6_years_62 : decode cX6_years 62 = .ok (.l2i, 1) := by decide +kernel
theorem dX6_years_63 : decode cX6_years 63 = .ok (.invokevirtual 229, 3) := by decide +kernel
theorem dX6_years_66 : decode cX6_years 66 = .ok (.iload_n 2, 1) := by decide +kernel
theorem dX6_years_67 : decode cX6_years 67 = .ok (.aload_n 0, 1) := by decide +kernel
theorem dX6_years_68 : decode cX6_years 68 = .ok (.getfield 16, 3) := by decide +kernel
theorem dX6_years_71 : decode cX6_years 71 = .ok (.invokevirtual 233, 3) := by decide +kernel
theorem dX6_years_74 : decode cX6_years 74 = .ok (.iadd, 1) := by decide +kernel
theorem dX6_years_75 : decode cX6_years 75 = .ok (.istore_n 2, 1) := by decide +kernel
theorem dX6_years_76 : decode cX6_years 76 = .ok (.iinc 3 1, 3) := by decide +kernel
theorem dX6_years_79 : decode cX6_years 79 = .ok (.goto (-50), 3) := by decide +kernel
theorem dX6_years_82 : decode cX6_years 82 = .ok (.iload_n 2, 1) := by decide +kernel
theorem dX6_years_83 : decode cX6_years 83 = .ok (.ireturn, 1) := by decide +kernel
theorem dX6_keep_0 : decode cX6_keep 0 = .ok (.iload_n 1, 1) := by decide +kernel
theorem dX6_keep_1 : decode cX6_keep 1 = .ok (.ifCond .lt 8, 3) := by decide +kernel
theorem dX6_keep_4 : decode cX6_keep 4 = .ok (.iload_n 1, 1) := by decide +kernel
theorem dX6_keep_5 : decode cX6_keep 5 = .ok (.iconst 2, 1) := by decide +kernel
theorem dX6_keep_6 : decode cX6_keep 6 = .ok (.if_icmp .lt 5, 3) := by decide +kernel
theorem dX6_keep_9 : decode cX6_keep 9 = .ok (.iconst (-1), 1) := by decide +kernel
theorem dX6_keep_10 : decode cX6_keep 10 = .ok (.ireturn, 1) := by decide +kernel
theorem dX6_keep_11 : decode cX6_keep 11 = .ok (.aload_n 0, 1) := by decide +kernel
theorem dX6_keep_12 : decode cX6_keep 12 = .ok (.getfield 19, 3) := by decide +kernel
theorem dX6_keep_15 : decode cX6_keep 15 = .ok (.iload_n 1, 1) := by decide +kernel
theorem dX6_keep_16 : decode cX6_keep 16 = .ok (.aaload, 1) := by decide +kernel
theorem dX6_keep_17 : decode cX6_keep 17 = .ok (.astore_n 2, 1) := by decide +kernel
theorem dX6_keep_18 : decode cX6_keep 18 = .ok (.aload_n 2, 1) := by decide +kernel
theorem dX6_keep_19 : decode cX6_keep 19 = .ok (.ifnonnull 18, 3) := by decide +kernel
theorem dX6_keep_22 : decode cX6_keep 22 = .ok (.new 7, 3) := by decide +kernel
theorem dX6_keep_25 : decode cX6_keep 25 = .ok (.dup, 1) := by decide +kernel
theorem dX6_keep_26 : decode cX6_keep 26 = .ok (.invokespecial 9, 3) := by decide +kernel
theorem dX6_keep_29 : decode cX6_keep 29 = .ok (.astore_n 2, 1) := by decide +kernel
theorem dX6_keep_30 : decode cX6_keep 30 = .ok (.aload_n 0, 1) := by decide +kernel
theorem dX6_keep_31 : decode cX6_keep 31 = .ok (.getfield 19, 3) := by decide +kernel
theorem dX6_keep_34 : decode cX6_keep 34 = .ok (.iload_n 1, 1) := by decide +kernel
theorem dX6_keep_35 : decode cX6_keep 35 = .ok (.aload_n 2, 1) := by decide +kernel
theorem dX6_keep_36 : decode cX6_keep 36 = .ok (.aastore, 1) := by decide +kernel
theorem dX6_keep_37 : decode cX6_keep 37 = .ok (.aload_n 2, 1) := by decide +kernel
theorem dX6_keep_38 : decode cX6_keep 38 = .ok (.aload_n 0, 1) := by decide +kernel
theorem dX6_keep_39 : decode cX6_keep 39 = .ok (.getfield 10, 3) := by decide +kernel
theorem dX6_keep_42 : decode cX6_keep 42 = .ok (.invokevirtual 182, 3) := by decide +kernel
theorem dX6_keep_45 : decode cX6_keep 45 = .ok (.aload_n 0, 1) := by decide +kernel
theorem dX6_keep_46 : decode cX6_keep 46 = .ok (.getfield 10, 3) := by decide +kernel
theorem dX6_keep_49 : decode cX6_keep 49 = .ok (.invokevirtual 233, 3) := by decide +kernel
theorem dX6_keep_52 : decode cX6_keep 52 = .ok (.ireturn, 1) := by decide +kernel
theorem dX6_again_0 : decode cX6_again 0 = .ok (.iload_n 1, 1) := by decide +kernel
theorem dX6_again_1 : decode cX6_again 1 = .ok (.ifCond .lt 8, 3) := by decide +kernel
theorem dX6_again_4 : decode cX6_again 4 = .ok (.iload_n 1, 1) := by decide +kernel
theorem dX6_again_5 : decode cX6_again 5 = .ok (.iconst 2, 1) := by decide +kernel
theorem dX6_again_6 : decode cX6_again 6 = .ok (.if_icmp .lt 5, 3) := by decide +kernel
theorem dX6_again_9 : decode cX6_again 9 = .ok (.iconst (-1), 1) := by decide +kernel
theorem dX6_again_10 : decode cX6_again 10 = .ok (.ireturn, 1) := by decide +kernel
theorem dX6_again_11 : decode cX6_again 11 = .ok (.aload_n 0, 1) := by decide +kernel
theorem dX6_again_12 : decode cX6_again 12 = .ok (.getfield 19, 3) := by decide +kernel
theorem dX6_again_15 : decode cX6_again 15 = .ok (.iload_n 1, 1) := by decide +kernel
theorem dX6_again_16 : decode cX6_again 16 = .ok (.aaload, 1) := by decide +kernel
theorem dX6_again_17 : decode cX6_again 17 = .ok (.astore_n 2, 1) := by decide +kernel
theorem dX6_again_18 : decode cX6_again 18 = .ok (.aload_n 2, 1) := by decide +kernel
theorem dX6_again_19 : decode cX6_again 19 = .ok (.ifnonnull 6, 3) := by decide +kernel
theorem dX6_again_22 : decode cX6_again 22 = .ok (.bipush (-3), 2) := by decide +kernel
theorem dX6_again_24 : decode cX6_again 24 = .ok (.ireturn, 1) := by decide +kernel
theorem dX6_again_25 : decode cX6_again 25 = .ok (.aload_n 0, 1) := by decide +kernel
theorem dX6_again_26 : decode cX6_again 26 = .ok (.getfield 10, 3) := by decide +kernel
theorem dX6_again_29 : decode cX6_again 29 = .ok (.aload_n 2, 1) := by decide +kernel
theorem dX6_again_30 : decode cX6_again 30 = .ok (.invokevirtual 182, 3) := by decide +kernel
theorem dX6_again_33 : decode cX6_again 33 = .ok (.aload_n 0, 1) := by decide +kernel
theorem dX6_again_34 : decode cX6_again 34 = .ok (.getfield 33, 3) := by decide +kernel
theorem dX6_again_37 : decode cX6_again 37 = .ok (.invokevirtual 236, 3) := by decide +kernel
theorem dX6_again_40 : decode cX6_again 40 = .ok (.aload_n 0, 1) := by decide +kernel
theorem dX6_again_41 : decode cX6_again 41 = .ok (.getfield 10, 3) := by decide +kernel
theorem dX6_again_44 : decode cX6_again 44 = .ok (.invokevirtual 233, 3) := by decide +kernel
theorem dX6_again_47 : decode cX6_again 47 = .ok (.ireturn, 1) := by decide +kernel
theorem dX6_count_0 : decode cX6_count 0 = .ok (.iload_n 1, 1) := by decide +kernel
theorem dX6_count_1 : decode cX6_count 1 = .ok (.tableswitch 131 0 5 #[39, 47, 55, 85, 115, 123], 39) := by decide +kernel
theorem dX6_count_40 : decode cX6_count 40 = .ok (.aload_n 0, 1) := by decide +kernel
theorem dX6_count_41 : decode cX6_count 41 = .ok (.getfield 26, 3) := by decide +kernel
theorem dX6_count_44 : decode cX6_count 44 = .ok (.invokevirtual 63, 3) := by decide +kernel
theorem dX6_count_47 : decode cX6_count 47 = .ok (.ireturn, 1) := by decide +kernel
theorem dX6_count_48 : decode cX6_count 48 = .ok (.aload_n 0, 1) := by decide +kernel
theorem dX6_count_49 : decode cX6_count 49 = .ok (.getfield 10, 3) := by decide +kernel
theorem dX6_count_52 : decode cX6_count 52 = .ok (.invokevirtual 233, 3) := by decide +kernel
theorem dX6_count_55 : decode cX6_count 55 = .ok (.ireturn, 1) := by decide +kernel
theorem dX6_count_56 : decode cX6_count 56 = .ok (.aload_n 0, 1) := by decide +kernel
theorem dX6_count_57 : decode cX6_count 57 = .ok (.getfield 10, 3) := by decide +kernel
theorem dX6_count_60 : decode cX6_count 60 = .ok (.iconst 0, 1) := by decide +kernel
theorem dX6_count_61 : decode cX6_count 61 = .ok (.invokevirtual 94, 3) := by decide +kernel
theorem dX6_count_64 : decode cX6_count 64 = .ok (.aload_n 0, 1) := by decide +kernel
theorem dX6_count_65 : decode cX6_count 65 = .ok (.getfield 10, 3) := by decide +kernel
theorem dX6_count_68 : decode cX6_count 68 = .ok (.iconst 1, 1) := by decide +kernel
theorem dX6_count_69 : decode cX6_count 69 = .ok (.invokevirtual 94, 3) := by decide +kernel
theorem dX6_count_72 : decode cX6_count 72 = .ok (.lor, 1) := by decide +kernel
theorem dX6_count_73 : decode cX6_count 73 = .ok (.aload_n 0, 1) := by decide +kernel
theorem dX6_count_74 : decode cX6_count 74 = .ok (.getfield 10, 3) := by decide +kernel
theorem dX6_count_77 : decode cX6_count 77 = .ok (.iconst 2, 1) := by decide +kernel
theorem dX6_count_78 : decode cX6_count 78 = .ok (.invokevirtual 94, 3) := by decide +kernel
theorem dX6_count_81 : decode cX6_count 81 = .ok (.lor, 1) := by decide +kernel
theorem dX6_count_82 : decode cX6_count 82 = .ok (.invokestatic 84, 3) := by decide +kernel
theorem dX6_count_85 : decode cX6_count 85 = .ok (.ireturn, 1) := by decide +kernel
theorem dX6_count_86 : decode cX6_count 86 = .ok (.aload_n 0, 1) := by decide +kernel
theorem dX6_count_87 : decode cX6_count 87 = .ok (.getfield 10, 3) := by decide +kernel
theorem dX6_count_90 : decode cX6_count 90 = .ok (.iconst 0, 1) := by decide +kernel
theorem dX6_count_91 : decode cX6_count 91 = .ok (.invokevirtual 94, 3) := by decide +kernel
theorem dX6_count_94 : decode cX6_count 94 = .ok (.aload_n 0, 1) := by decide +kernel
theorem dX6_count_95 : decode cX6_count 95 = .ok (.getfield 10, 3) := by decide +kernel
theorem dX6_count_98 : decode cX6_count 98 = .ok (.iconst 1, 1) := by decide +kernel
theorem dX6_count_99 : decode cX6_count 99 = .ok (.invokevirtual 94, 3) := by decide +kernel
theorem dX6_count_102 : decode cX6_count 102 = .ok (.land, 1) := by decide +kernel
theorem dX6_count_103 : decode cX6_count 103 = .ok (.aload_n 0, 1) := by decide +kernel
theorem dX6_count_104 : decode cX6_count 104 = .ok (.getfield 10, 3) := by decide +kernel
theorem dX6_count_107 : decode cX6_count 107 = .ok (.iconst 2, 1) := by decide +kernel
theorem dX6_count_108 : decode cX6_count 108 = .ok (.invokevirtual 94, 3) := by decide +kernel
theorem dX6_count_111 : decode cX6_count 111 = .ok (.land, 1) := by decide +kernel
theorem dX6_count_112 : decode cX6_count 112 = .ok (.invokestatic 84, 3) := by decide +kernel
theorem dX6_count_115 : decode cX6_count 115 = .ok (.ireturn, 1) := by decide +kernel
theorem dX6_count_116 : decode cX6_count 116 = .ok (.aload_n 0, 1) := by decide +kernel
theorem dX6_count_117 : decode cX6_count 117 = .ok (.getfield 33, 3) := by decide +kernel
theorem dX6_count_120 : decode cX6_count 120 = .ok (.invokevirtual 120, 3) := by decide +kernel
theorem dX6_count_123 : decode cX6_count 123 = .ok (.ireturn, 1) := by decide +kernel
theorem dX6_count_124 : decode cX6_count 124 = .ok (.aload_n 0, 1) := by decide +kernel
theorem dX6_count_125 : decode cX6_count 125 = .ok (.getfield 40, 3) := by decide +kernel
theorem dX6_count_128 : decode cX6_count 128 = .ok (.invokevirtual 193, 3) := by decide +kernel
theorem dX6_count_131 : decode cX6_count 131 = .ok (.ireturn, 1) := by decide +kernel
theorem dX6_count_132 : decode cX6_count 132 = .ok (.bipush (-2), 2) := by decide +kernel
theorem dX6_count_134 : decode cX6_count 134 = .ok (.ireturn, 1) := by decide +kernel
theorem dX6_isPicture_0 : decode cX6_isPicture 0 = .ok (.iload_n 0, 1) := by decide +kernel
theorem dX6_isPicture_1 : decode cX6_isPicture 1 = .ok (.ifCond .lt 12, 3) := by decide +kernel
theorem dX6_isPicture_4 : decode cX6_isPicture 4 = .ok (.iload_n 0, 1) := by decide +kernel
theorem dX6_isPicture_5 : decode cX6_isPicture 5 = .ok (.iconst 3, 1) := by decide +kernel
theorem dX6_isPicture_6 : decode cX6_isPicture 6 = .ok (.if_icmp .ge 7, 3) := by decide +kernel
theorem dX6_isPicture_9 : decode cX6_isPicture 9 = .ok (.iconst 1, 1) := by decide +kernel
theorem dX6_isPicture_10 : decode cX6_isPicture 10 = .ok (.goto 4, 3) := by decide +kernel
theorem dX6_isPicture_13 : decode cX6_isPicture 13 = .ok (.iconst 0, 1) := by decide +kernel
theorem dX6_isPicture_14 : decode cX6_isPicture 14 = .ok (.ireturn, 1) := by decide +kernel
theorem dX6_isCell_0 : decode cX6_isCell 0 = .ok (.iload_n 0, 1) := by decide +kernel
theorem dX6_isCell_1 : decode cX6_isCell 1 = .ok (.ifCond .lt 13, 3) := by decide +kernel
theorem dX6_isCell_4 : decode cX6_isCell 4 = .ok (.iload_n 0, 1) := by decide +kernel
theorem dX6_isCell_5 : decode cX6_isCell 5 = .ok (.bipush 64, 2) := by decide +kernel
theorem dX6_isCell_7 : decode cX6_isCell 7 = .ok (.if_icmp .ge 7, 3) := by decide +kernel
theorem dX6_isCell_10 : decode cX6_isCell 10 = .ok (.iconst 1, 1) := by decide +kernel
theorem dX6_isCell_11 : decode cX6_isCell 11 = .ok (.goto 4, 3) := by decide +kernel
theorem dX6_isCell_14 : decode cX6_isCell 14 = .ok (.iconst 0, 1) := by decide +kernel
theorem dX6_isCell_15 : decode cX6_isCell 15 = .ok (.ireturn, 1) := by decide +kernel
theorem dX6_isQuarter_0 : decode cX6_isQuarter 0 = .ok (.iload_n 0, 1) := by decide +kernel
theorem dX6_isQuarter_1 : decode cX6_isQuarter 1 = .ok (.ifCond .lt 12, 3) := by decide +kernel
theorem dX6_isQuarter_4 : decode cX6_isQuarter 4 = .ok (.iload_n 0, 1) := by decide +kernel
theorem dX6_isQuarter_5 : decode cX6_isQuarter 5 = .ok (.iconst 4, 1) := by decide +kernel
theorem dX6_isQuarter_6 : decode cX6_isQuarter 6 = .ok (.if_icmp .ge 7, 3) := by decide +kernel
theorem dX6_isQuarter_9 : decode cX6_isQuarter 9 = .ok (.iconst 1, 1) := by decide +kernel
theorem dX6_isQuarter_10 : decode cX6_isQuarter 10 = .ok (.goto 4, 3) := by decide +kernel
theorem dX6_isQuarter_13 : decode cX6_isQuarter 13 = .ok (.iconst 0, 1) := by decide +kernel
theorem dX6_isQuarter_14 : decode cX6_isQuarter 14 = .ok (.ireturn, 1) := by decide +kernel
theorem dX6_change_0 : decode cX6_change 0 = .ok (.aload_n 0, 1) := by decide +kernel
theorem dX6_change_1 : decode cX6_change 1 = .ok (.getfield 33, 3) := by decide +kernel
theorem dX6_change_4 : decode cX6_change 4 = .ok (.iload_n 1, 1) := by decide +kernel
theorem dX6_change_5 : decode cX6_change 5 = .ok (.aload_n 0, 1) := by decide +kernel
theorem dX6_change_6 : decode cX6_change 6 = .ok (.getfield 10, 3) := by decide +kernel
theorem dX6_change_9 : decode cX6_change 9 = .ok (.iload_n 1, 1) := by decide +kernel
theorem dX6_change_10 : decode cX6_change 10 = .ok (.invokevirtual 94, 3) := by decide +kernel
theorem dX6_change_13 : decode cX6_change 13 = .ok (.invokevirtual 237, 3) := by decide +kernel
theorem dX6_change_16 : decode cX6_change 16 = .ok (.aload_n 0, 1) := by decide +kernel
theorem dX6_change_17 : decode cX6_change 17 = .ok (.getfield 10, 3) := by decide +kernel
theorem dX6_change_20 : decode cX6_change 20 = .ok (.iload_n 1, 1) := by decide +kernel
theorem dX6_change_21 : decode cX6_change 21 = .ok (.lload_n 2, 1) := by decide +kernel
theorem dX6_change_22 : decode cX6_change 22 = .ok (.invokevirtual 127, 3) := by decide +kernel
theorem dX6_change_25 : decode cX6_change 25 = .ok (.lload_n 2, 1) := by decide +kernel
theorem dX6_change_26 : decode cX6_change 26 = .ok (.lreturn, 1) := by decide +kernel
theorem dX6_combine_0 : decode cX6_combine 0 = .ok (.iload_n 2, 1) := by decide +kernel
theorem dX6_combine_1 : decode cX6_combine 1 = .ok (.invokestatic 73, 3) := by decide +kernel
theorem dX6_combine_4 : decode cX6_combine 4 = .ok (.ifCond .eq 10, 3) := by decide +kernel
theorem dX6_combine_7 : decode cX6_combine 7 = .ok (.iload_n 3, 1) := by decide +kernel
theorem dX6_combine_8 : decode cX6_combine 8 = .ok (.invokestatic 73, 3) := by decide +kernel
theorem dX6_combine_11 : decode cX6_combine 11 = .ok (.ifCond .ne 5, 3) := by decide +kernel
theorem dX6_combine_14 : decode cX6_combine 14 = .ok (.iconst (-1), 1) := by decide +kernel
theorem dX6_combine_15 : decode cX6_combine 15 = .ok (.ireturn, 1) := by decide +kernel
theorem dX6_combine_16 : decode cX6_combine 16 = .ok (.iload_n 2, 1) := by decide +kernel
theorem dX6_combine_17 : decode cX6_combine 17 = .ok (.iload_n 3, 1) := by decide +kernel
theorem dX6_combine_18 : decode cX6_combine 18 = .ok (.if_icmp .ne 6, 3) := by decide +kernel
theorem dX6_combine_21 : decode cX6_combine 21 = .ok (.bipush (-2), 2) := by decide +kernel
theorem dX6_combine_23 : decode cX6_combine 23 = .ok (.ireturn, 1) := by decide +kernel
theorem dX6_combine_24 : decode cX6_combine 24 = .ok (.aload_n 0, 1) := by decide +kernel
theorem dX6_combine_25 : decode cX6_combine 25 = .ok (.iload_n 2, 1) := by decide +kernel
theorem dX6_combine_26 : decode cX6_combine 26 = .ok (.iload_n 1, 1) := by decide +kernel
theorem dX6_combine_27 : decode cX6_combine 27 = .ok (.aload_n 0, 1) := by decide +kernel
theorem dX6_combine_28 : decode cX6_combine 28 = .ok (.getfield 10, 3) := by decide +kernel
theorem dX6_combine_31 : decode cX6_combine 31 = .ok (.iload_n 2, 1) := by decide +kernel
theorem dX6_combine_32 : decode cX6_combine 32 = .ok (.invokevirtual 94, 3) := by decide +kernel
theorem dX6_combine_35 : decode cX6_combine 35 = .ok (.aload_n 0, 1) := by decide +kernel
theorem dX6_combine_36 : decode cX6_combine 36 = .ok (.getfield 10, 3) := by decide +kernel
theorem dX6_combine_39 : decode cX6_combine 39 = .ok (.iload_n 3, 1) := by decide +kernel
theorem dX6_combine_40 : decode cX6_combine 40 = .ok (.invokevirtual 94, 3) := by decide +kernel
theorem dX6_combine_43 : decode cX6_combine 43 = .ok (.invokestatic 239, 3) := by decide +kernel
theorem dX6_combine_46 : decode cX6_combine 46 = .ok (.invokevirtual 80, 3) := by decide +kernel
theorem dX6_combine_49 : decode cX6_combine 49 = .ok (.invokestatic 84, 3) := by decide +kernel
theorem dX6_combine_52 : decode cX6_combine 52 = .ok (.ireturn, 1) := by decide +kernel
theorem dX6_readsDoings_0 : decode cX6_readsDoings 0 = .ok (.lload_n 2, 1) := by decide +kernel
theorem dX6_readsDoings_1 : decode cX6_readsDoings 1 = .ok (.lstore 4, 2) := by decide +kernel
theorem dX6_readsDoings_3 : decode cX6_readsDoings 3 = .ok (.iload_n 1, 1) := by decide +kernel
theorem dX6_readsDoings_4 : decode cX6_readsDoings 4 = .ok (.iconst 4, 1) := by decide +kernel
theorem dX6_readsDoings_5 : decode cX6_readsDoings 5 = .ok (.invokestatic 243, 3) := by decide +kernel
theorem dX6_readsDoings_8 : decode cX6_readsDoings 8 = .ok (.iconst 1, 1) := by decide +kernel
theorem dX6_readsDoings_9 : decode cX6_readsDoings 9 = .ok (.isub, 1) := by decide +kernel
theorem dX6_readsDoings_10 : decode cX6_readsDoings 10 = .ok (.istore 6, 2) := by decide +kernel
theorem dX6_readsDoings_12 : decode cX6_readsDoings 12 = .ok (.iload 6, 2) := by decide +kernel
theorem dX6_readsDoings_14 : decode cX6_readsDoings 14 = .ok (.ifCond .lt 31, 3) := by decide +kernel
theorem dX6_readsDoings_17 : decode cX6_readsDoings 17 = .ok (.aload_n 0, 1) := by decide +kernel
theorem dX6_readsDoings_18 : decode cX6_readsDoings 18 = .ok (.getfield 51, 3) := by decide +kernel
theorem dX6_readsDoings_21 : decode cX6_readsDoings 21 = .ok (.iload 6, 2) := by decide +kernel
theorem dX6_readsDoings_23 : decode cX6_readsDoings 23 = .ok (.lload 4, 2) := by decide +kernel
theorem dX6_readsDoings_25 : decode cX6_readsDoings 25 = .ok (.ldc2_w 248, 3) := by decide +kernel
theorem dX6_readsDoings_28 : decode cX6_readsDoings 28 = .ok (.lrem, 1) := by decide +kernel
theorem dX6_readsDoings_29 : decode cX6_readsDoings 29 = .ok (.l2i, 1) := by decide +kernel
theorem dX6_readsDoings_30 : decode cX6_readsDoings 30 = .ok (.iastore, 1) := by decide +kernel
theorem dX6_readsDoings_31 : decode cX6_readsDoings 31 = .ok (.lload 4, 2) := by decide +kernel
theorem dX6_readsDoings_33 : decode cX6_readsDoings 33 = .ok (.ldc2_w 248, 3) := by decide +kernel
theorem dX6_readsDoings_36 : decode cX6_readsDoings 36 = .ok (.ldiv, 1) := by decide +kernel
theorem dX6_readsDoings_37 : decode cX6_readsDoings 37 = .ok (.lstore 4, 2) := by decide +kernel
theorem dX6_readsDoings_39 : decode cX6_readsDoings 39 = .ok (.iinc 6 (-1), 3) := by decide +kernel
theorem dX6_readsDoings_42 : decode cX6_readsDoings 42 = .ok (.goto (-30), 3) := by decide +kernel
theorem dX6_readsDoings_45 : decode cX6_readsDoings 45 = .ok (.lload 4, 2) := by decide +kernel
theorem dX6_readsDoings_47 : decode cX6_readsDoings 47 = .ok (.lconst 0, 1) := by decide +kernel
theorem dX6_readsDoings_48 : decode cX6_readsDoings 48 = .ok (.lcmp, 1) := by decide +kernel
theorem dX6_readsDoings_49 : decode cX6_readsDoings 49 = .ok (.ifCond .ne 7, 3) := by decide +kernel
theorem dX6_readsDoings_52 : decode cX6_readsDoings 52 = .ok (.iconst 1, 1) := by decide +kernel
theorem dX6_readsDoings_53 : decode cX6_readsDoings 53 = .ok (.goto 4, 3) := by decide +kernel
theorem dX6_readsDoings_56 : decode cX6_readsDoings 56 = .ok (.iconst 0, 1) := by decide +kernel
theorem dX6_readsDoings_57 : decode cX6_readsDoings 57 = .ok (.ireturn, 1) := by decide +kernel
theorem dX6_sixthsOfCell_0 : decode cX6_sixthsOfCell 0 = .ok (.iload_n 0, 1) := by decide +kernel
theorem dX6_sixthsOfCell_1 : decode cX6_sixthsOfCell 1 = .ok (.iconst 1, 1) := by decide +kernel
theorem dX6_sixthsOfCell_2 : decode cX6_sixthsOfCell 2 = .ok (.if_icmp .ne 6, 3) := by decide +kernel
theorem dX6_sixthsOfCell_5 : decode cX6_sixthsOfCell 5 = .ok (.bipush 6, 2) := by decide +kernel
theorem dX6_sixthsOfCell_7 : decode cX6_sixthsOfCell 7 = .ok (.ireturn, 1) := by decide +kernel
theorem dX6_sixthsOfCell_8 : decode cX6_sixthsOfCell 8 = .ok (.iload_n 0, 1) := by decide +kernel
theorem dX6_sixthsOfCell_9 : decode cX6_sixthsOfCell 9 = .ok (.iconst 2, 1) := by decide +kernel
theorem dX6_sixthsOfCell_10 : decode cX6_sixthsOfCell 10 = .ok (.if_icmp .ne 7, 3) := by decide +kernel
theorem dX6_sixthsOfCell_13 : decode cX6_sixthsOfCell 13 = .ok (.iconst 3, 1) := by decide +kernel
theorem dX6_sixthsOfCell_14 : decode cX6_sixthsOfCell 14 = .ok (.goto 4, 3) := by decide +kernel
theorem dX6_sixthsOfCell_17 : decode cX6_sixthsOfCell 17 = .ok (.iconst 2, 1) := by decide +kernel
theorem dX6_sixthsOfCell_18 : decode cX6_sixthsOfCell 18 = .ok (.ireturn, 1) := by decide +kernel
theorem dX6_isRest_0 : decode cX6_isRest 0 = .ok (.aload_n 0, 1) := by decide +kernel
theorem dX6_isRest_1 : decode cX6_isRest 1 = .ok (.getfield 10, 3) := by decide +kernel
theorem dX6_isRest_4 : decode cX6_isRest 4 = .ok (.iconst 3, 1) := by decide +kernel
theorem dX6_isRest_5 : decode cX6_isRest 5 = .ok (.iload_n 1, 1) := by decide +kernel
theorem dX6_isRest_6 : decode cX6_isRest 6 = .ok (.isub, 1) := by decide +kernel
theorem dX6_isRest_7 : decode cX6_isRest 7 = .ok (.iload_n 2, 1) := by decide +kernel
theorem dX6_isRest_8 : decode cX6_isRest 8 = .ok (.isub, 1) := by decide +kernel
theorem dX6_isRest_9 : decode cX6_isRest 9 = .ok (.invokevirtual 94, 3) := by decide +kernel
theorem dX6_isRest_12 : decode cX6_isRest 12 = .ok (.lstore 5, 2) := by decide +kernel
theorem dX6_isRest_14 : decode cX6_isRest 14 = .ok (.aload_n 0, 1) := by decide +kernel
theorem dX6_isRest_15 : decode cX6_isRest 15 = .ok (.getfield 10, 3) := by decide +kernel
theorem dX6_isRest_18 : decode cX6_isRest 18 = .ok (.iload_n 1, 1) := by decide +kernel
theorem dX6_isRest_19 : decode cX6_isRest 19 = .ok (.invokevirtual 94, 3) := by decide +kernel
theorem dX6_isRest_22 : decode cX6_isRest 22 = .ok (.iload_n 3, 1) := by decide +kernel
theorem dX6_isRest_23 : decode cX6_isRest 23 = .ok (.invokestatic 250, 3) := by decide +kernel
theorem dX6_isRest_26 : decode cX6_isRest 26 = .ok (.lstore 7, 2) := by decide +kernel
theorem dX6_isRest_28 : decode cX6_isRest 28 = .ok (.aload_n 0, 1) := by decide +kernel
theorem dX6_isRest_29 : decode cX6_isRest 29 = .ok (.getfield 10, 3) := by decide +kernel
theorem dX6_isRest_32 : decode cX6_isRest 32 = .ok (.iload_n 1, 1) := by decide +kernel
theorem dX6_isRest_33 : decode cX6_isRest 33 = .ok (.invokevirtual 94, 3) := by decide +kernel
theorem dX6_isRest_36 : decode cX6_isRest 36 = .ok (.iconst 1, 1) := by decide +kernel
theorem dX6_isRest_37 : decode cX6_isRest 37 = .ok (.iload_n 3, 1) := by decide +kernel
theorem dX6_isRest_38 : decode cX6_isRest 38 = .ok (.isub, 1) := by decide +kernel
theorem dX6_isRest_39 : decode cX6_isRest 39 = .ok (.invokestatic 250, 3) := by decide +kernel
theorem dX6_isRest_42 : decode cX6_isRest 42 = .ok (.lstore 9, 2) := by decide +kernel
theorem dX6_isRest_44 : decode cX6_isRest 44 = .ok (.aload_n 0, 1) := by decide +kernel
theorem dX6_isRest_45 : decode cX6_isRest 45 = .ok (.getfield 10, 3) := by decide +kernel
theorem dX6_isRest_48 : decode cX6_isRest 48 = .ok (.iload_n 2, 1) := by decide +kernel
theorem dX6_isRest_49 : decode cX6_isRest 49 = .ok (.invokevirtual 94, 3) := by decide +kernel
theorem dX6_isRest_52 : decode cX6_isRest 52 = .ok (.iload 4, 2) := by decide +kernel
theorem dX6_isRest_54 : decode cX6_isRest 54 = .ok (.invokestatic 250, 3) := by decide +kernel
theorem dX6_isRest_57 : decode cX6_isRest 57 = .ok (.lstore 11, 2) := by decide +kernel
theorem dX6_isRest_59 : decode cX6_isRest 59 = .ok (.aload_n 0, 1) := by decide +kernel
theorem dX6_isRest_60 : decode cX6_isRest 60 = .ok (.getfield 10, 3) := by decide +kernel
theorem dX6_isRest_63 : decode cX6_isRest 63 = .ok (.iload_n 2, 1) := by decide +kernel
theorem dX6_isRest_64 : decode cX6_isRest 64 = .ok (.invokevirtual 94, 3) := by decide +kernel
theorem dX6_isRest_67 : decode cX6_isRest 67 = .ok (.iconst 1, 1) := by decide +kernel
theorem dX6_isRest_68 : decode cX6_isRest 68 = .ok (.iload 4, 2) := by decide +kernel
theorem dX6_isRest_70 : decode cX6_isRest 70 = .ok (.isub, 1) := by decide +kernel
theorem dX6_isRest_71 : decode cX6_isRest 71 = .ok (.invokestatic 250, 3) := by decide +kernel
theorem dX6_isRest_74 : decode cX6_isRest 74 = .ok (.lstore 13, 2) := by decide +kernel
theorem dX6_isRest_76 : decode cX6_isRest 76 = .ok (.lload 7, 2) := by decide +kernel
theorem dX6_isRest_78 : decode cX6_isRest 78 = .ok (.lload 11, 2) := by decide +kernel
theorem dX6_isRest_80 : decode cX6_isRest 80 = .ok (.lload 5, 2) := by decide +kernel
theorem dX6_isRest_82 : decode cX6_isRest 82 = .ok (.invokestatic 253, 3) := by decide +kernel
theorem dX6_isRest_85 : decode cX6_isRest 85 = .ok (.lload 9, 2) := by decide +kernel
theorem dX6_isRest_87 : decode cX6_isRest 87 = .ok (.lload 11, 2) := by decide +kernel
theorem dX6_isRest_89 : decode cX6_isRest 89 = .ok (.lload 5, 2) := by decide +kernel
theorem dX6_isRest_91 : decode cX6_isRest 91 = .ok (.invokestatic 253, 3) := by decide +kernel
theorem dX6_isRest_94 : decode cX6_isRest 94 = .ok (.if_icmp .lt 28, 3) := by decide +kernel
theorem dX6_isRest_97 : decode cX6_isRest 97 = .ok (.lload 11, 2) := by decide +kernel
theorem dX6_isRest_99 : decode cX6_isRest 99 = .ok (.lload 7, 2) := by decide +kernel
theorem dX6_isRest_101 : decode cX6_isRest 101 = .ok (.lload 5, 2) := by decide +kernel
theorem dX6_isRest_103 : decode cX6_isRest 103 = .ok (.invokestatic 253, 3) := by decide +kernel
theorem dX6_isRest_106 : decode cX6_isRest 106 = .ok (.lload 13, 2) := by decide +kernel
theorem dX6_isRest_108 : decode cX6_isRest 108 = .ok (.lload 7, 2) := by decide +kernel
theorem dX6_isRest_110 : decode cX6_isRest 110 = .ok (.lload 5, 2) := by decide +kernel
theorem dX6_isRest_112 : decode cX6_isRest 112 = .ok (.invokestatic 253, 3) := by decide +kernel
theorem dX6_isRest_115 : decode cX6_isRest 115 = .ok (.if_icmp .lt 7, 3) := by decide +kernel
theorem dX6_isRest_118 : decode cX6_isRest 118 = .ok (.iconst 1, 1) := by decide +kernel
theorem dX6_isRest_119 : decode cX6_isRest 119 = .ok (.goto 4, 3) := by decide +kernel
theorem dX6_isRest_122 : decode cX6_isRest 122 = .ok (.iconst 0, 1) := by decide +kernel
theorem dX6_isRest_123 : decode cX6_isRest 123 = .ok (.ireturn, 1) := by decide +kernel
theorem dX6_gain_0 : decode cX6_gain 0 = .ok (.lload_n 0, 1) := by decide +kernel
theorem dX6_gain_1 : decode cX6_gain 1 = .ok (.lload 4, 2) := by decide +kernel
theorem dX6_gain_3 : decode cX6_gain 3 = .ok (.land, 1) := by decide +kernel
theorem dX6_gain_4 : decode cX6_gain 4 = .ok (.invokestatic 84, 3) := by decide +kernel
theorem dX6_gain_7 : decode cX6_gain 7 = .ok (.lload_n 0, 1) := by decide +kernel
theorem dX6_gain_8 : decode cX6_gain 8 = .ok (.lload_n 2, 1) := by decide +kernel
theorem dX6_gain_9 : decode cX6_gain 9 = .ok (.land, 1) := by decide +kernel
theorem dX6_gain_10 : decode cX6_gain 10 = .ok (.invokestatic 84, 3) := by decide +kernel
theorem dX6_gain_13 : decode cX6_gain 13 = .ok (.isub, 1) := by decide +kernel
theorem dX6_gain_14 : decode cX6_gain 14 = .ok (.ireturn, 1) := by decide +kernel
theorem dX6_areaLeft_0 : decode cX6_areaLeft 0 = .ok (.iconst 0, 1) := by decide +kernel
theorem dX6_areaLeft_1 : decode cX6_areaLeft 1 = .ok (.istore_n 3, 1) := by decide +kernel
theorem dX6_areaLeft_2 : decode cX6_areaLeft 2 = .ok (.iconst 0, 1) := by decide +kernel
theorem dX6_areaLeft_3 : decode cX6_areaLeft 3 = .ok (.istore 4, 2) := by decide +kernel
theorem dX6_areaLeft_5 : decode cX6_areaLeft 5 = .ok (.iload 4, 2) := by decide +kernel
theorem dX6_areaLeft_7 : decode cX6_areaLeft 7 = .ok (.iconst 4, 1) := by decide +kernel
theorem dX6_areaLeft_8 : decode cX6_areaLeft 8 = .ok (.if_icmp .ge 32, 3) := by decide +kernel
theorem dX6_areaLeft_11 : decode cX6_areaLeft 11 = .ok (.iload_n 2, 1) := by decide +kernel
theorem dX6_areaLeft_12 : decode cX6_areaLeft 12 = .ok (.iload 4, 2) := by decide +kernel
theorem dX6_areaLeft_14 : decode cX6_areaLeft 14 = .ok (.ishr, 1) := by decide +kernel
theorem dX6_areaLeft_15 : decode cX6_areaLeft 15 = .ok (.iconst 1, 1) := by decide +kernel
theorem dX6_areaLeft_16 : decode cX6_areaLeft 16 = .ok (.iand, 1) := by decide +kernel
theorem dX6_areaLeft_17 : decode cX6_areaLeft 17 = .ok (.iconst 1, 1) := by decide +kernel
theorem dX6_areaLeft_18 : decode cX6_areaLeft 18 = .ok (.if_icmp .ne 16, 3) := by decide +kernel
theorem dX6_areaLeft_21 : decode cX6_areaLeft 21 = .ok (.iload_n 3, 1) := by decide +kernel
theorem dX6_areaLeft_22 : decode cX6_areaLeft 22 = .ok (.lload_n 0, 1) := by decide +kernel
theorem dX6_areaLeft_23 : decode cX6_areaLeft 23 = .ok (.iload 4, 2) := by decide +kernel
theorem dX6_areaLeft_25 : decode cX6_areaLeft 25 = .ok (.invokestatic 257, 3) := by decide +kernel
theorem dX6_areaLeft_28 : decode cX6_areaLeft 28 = .ok (.land, 1) := by decide +kernel
theorem dX6_areaLeft_29 : decode cX6_areaLeft 29 = .ok (.invokestatic 84, 3) := by decide +kernel
theorem dX6_areaLeft_32 : decode cX6_areaLeft 32 = .ok (.iadd, 1) := by decide +kernel
theorem dX6_areaLeft_33 : decode cX6_areaLeft 33 = .ok (.istore_n 3, 1) := by decide +kernel
theorem dX6_areaLeft_34 : decode cX6_areaLeft 34 = .ok (.iinc 4 1, 3) := by decide +kernel
theorem dX6_areaLeft_37 : decode cX6_areaLeft 37 = .ok (.goto (-32), 3) := by decide +kernel
theorem dX6_areaLeft_40 : decode cX6_areaLeft 40 = .ok (.iload_n 3, 1) := by decide +kernel
theorem dX6_areaLeft_41 : decode cX6_areaLeft 41 = .ok (.ireturn, 1) := by decide +kernel
theorem dX6_chanceOf_0 : decode cX6_chanceOf 0 = .ok (.iconst 1, 1) := by decide +kernel
theorem dX6_chanceOf_1 : decode cX6_chanceOf 1 = .ok (.istore_n 2, 1) := by decide +kernel
theorem dX6_chanceOf_2 : decode cX6_chanceOf 2 = .ok (.iconst 0, 1) := by decide +kernel
theorem dX6_chanceOf_3 : decode cX6_chanceOf 3 = .ok (.istore_n 3, 1) := by decide +kernel
theorem dX6_chanceOf_4 : decode cX6_chanceOf 4 = .ok (.iload_n 3, 1) := by decide +kernel
theorem dX6_chanceOf_5 : decode cX6_chanceOf 5 = .ok (.iconst 4, 1) := by decide +kernel
theorem dX6_chanceOf_6 : decode cX6_chanceOf 6 = .ok (.if_icmp .ge 29, 3) := by decide +kernel
theorem dX6_chanceOf_9 : decode cX6_chanceOf 9 = .ok (.iload_n 2, 1) := by decide +kernel
theorem dX6_chanceOf_10 : decode cX6_chanceOf 10 = .ok (.iload_n 0, 1) := by decide +kernel
theorem dX6_chanceOf_11 : decode cX6_chanceOf 11 = .ok (.iload_n 3, 1) := by decide +kernel
theorem dX6_chanceOf_12 : decode cX6_chanceOf 12 = .ok (.ishr, 1) := by decide +kernel
theorem dX6_chanceOf_13 : decode cX6_chanceOf 13 = .ok (.iconst 1, 1) := by decide +kernel
theorem dX6_chanceOf_14 : decode cX6_chanceOf 14 = .ok (.iand, 1) := by decide +kernel
theorem dX6_chanceOf_15 : decode cX6_chanceOf 15 = .ok (.iconst 1, 1) := by decide +kernel
theorem dX6_chanceOf_16 : decode cX6_chanceOf 16 = .ok (.if_icmp .ne 10, 3) := by decide +kernel
theorem dX6_chanceOf_19 : decode cX6_chanceOf 19 = .ok (.bipush 10, 2) := by decide +kernel
theorem dX6_chanceOf_21 : decode cX6_chanceOf 21 = .ok (.iload_n 1, 1) := by decide +kernel
theorem dX6_chanceOf_22 : decode cX6_chanceOf 22 = .ok (.isub, 1) := by decide +kernel
theorem dX6_chanceOf_23 : decode cX6_chanceOf 23 = .ok (.goto 4, 3) := by decide +kernel
theorem dX6_chanceOf_26 : decode cX6_chanceOf 26 = .ok (.iload_n 1, 1) := by decide +kernel
theorem dX6_chanceOf_27 : decode cX6_chanceOf 27 = .ok (.imul, 1) := by decide +kernel
theorem dX6_chanceOf_28 : decode cX6_chanceOf 28 = .ok (.istore_n 2, 1) := by decide +kernel
theorem dX6_chanceOf_29 : decode cX6_chanceOf 29 = .ok (.iinc 3 1, 3) := by decide +kernel
theorem dX6_chanceOf_32 : decode cX6_chanceOf 32 = .ok (.goto (-28), 3) := by decide +kernel
theorem dX6_chanceOf_35 : decode cX6_chanceOf 35 = .ok (.iload_n 2, 1) := by decide +kernel
theorem dX6_chanceOf_36 : decode cX6_chanceOf 36 = .ok (.ireturn, 1) := by decide +kernel
theorem dX6_told_0 : decode cX6_told 0 = .ok (.iload_n 0, 1) := by decide +kernel
theorem dX6_told_1 : decode cX6_told 1 = .ok (.iload_n 1, 1) := by decide +kernel
theorem dX6_told_2 : decode cX6_told 2 = .ok (.invokestatic 260, 3) := by decide +kernel
theorem dX6_told_5 : decode cX6_told 5 = .ok (.istore_n 3, 1) := by decide +kernel
theorem dX6_told_6 : decode cX6_told 6 = .ok (.iload_n 2, 1) := by decide +kernel
theorem dX6_told_7 : decode cX6_told 7 = .ok (.ifCond .eq 7, 3) := by decide +kernel
theorem dX6_told_10 : decode cX6_told 10 = .ok (.iload_n 0, 1) := by decide +kernel
theorem dX6_told_11 : decode cX6_told 11 = .ok (.goto 4, 3) := by decide +kernel
theorem dX6_told_14 : decode cX6_told 14 = .ok (.iload_n 1, 1) := by decide +kernel
theorem dX6_told_15 : decode cX6_told 15 = .ok (.istore 4, 2) := by decide +kernel
theorem dX6_told_17 : decode cX6_told 17 = .ok (.iload_n 3, 1) := by decide +kernel
theorem dX6_told_18 : decode cX6_told 18 = .ok (.iconst 1, 1) := by decide +kernel
theorem dX6_told_19 : decode cX6_told 19 = .ok (.if_icmp .le 10, 3) := by decide +kernel
theorem dX6_told_22 : decode cX6_told 22 = .ok (.iload 4, 2) := by decide +kernel
theorem dX6_told_24 : decode cX6_told 24 = .ok (.iload_n 3, 1) := by decide +kernel
theorem dX6_told_25 : decode cX6_told 25 = .ok (.idiv, 1) := by decide +kernel
theorem dX6_told_26 : decode cX6_told 26 = .ok (.goto 5, 3) := by decide +kernel
theorem dX6_told_29 : decode cX6_told 29 = .ok (.iload 4, 2) := by decide +kernel
theorem dX6_told_31 : decode cX6_told 31 = .ok (.ireturn, 1) := by decide +kernel
theorem dX6_commonDivisor_0 : decode cX6_commonDivisor 0 = .ok (.iload_n 0, 1) := by decide +kernel
theorem dX6_commonDivisor_1 : decode cX6_commonDivisor 1 = .ok (.istore_n 2, 1) := by decide +kernel
theorem dX6_commonDivisor_2 : decode cX6_commonDivisor 2 = .ok (.iload_n 1, 1) := by decide +kernel
theorem dX6_commonDivisor_3 : decode cX6_commonDivisor 3 = .ok (.istore_n 3, 1) := by decide +kernel
theorem dX6_commonDivisor_4 : decode cX6_commonDivisor 4 = .ok (.iconst 0, 1) := by decide +kernel
theorem dX6_commonDivisor_5 : decode cX6_commonDivisor 5 = .ok (.istore 4, 2) := by decide +kernel
theorem dX6_commonDivisor_7 : decode cX6_commonDivisor 7 = .ok (.iload 4, 2) := by decide +kernel
theorem dX6_commonDivisor_9 : decode cX6_commonDivisor 9 = .ok (.bipush 64, 2) := by decide +kernel
theorem dX6_commonDivisor_11 : decode cX6_commonDivisor 11 = .ok (.if_icmp .ge 23, 3) := by decide +kernel
theorem dX6_commonDivisor_14 : decode cX6_commonDivisor 14 = .ok (.iload_n 3, 1) := by decide +kernel
theorem dX6_commonDivisor_15 : decode cX6_commonDivisor 15 = .ok (.ifCond .eq 19, 3) := by decide +kernel
theorem dX6_commonDivisor_18 : decode cX6_commonDivisor 18 = .ok (.iload_n 2, 1) := by decide +kernel
theorem dX6_commonDivisor_19 : decode cX6_commonDivisor 19 = .ok (.iload_n 3, 1) := by decide +kernel
theorem dX6_commonDivisor_20 : decode cX6_commonDivisor 20 = .ok (.irem, 1) := by decide +kernel
theorem dX6_commonDivisor_21 : decode cX6_commonDivisor 21 = .ok (.istore 5, 2) := by decide +kernel
theorem dX6_commonDivisor_23 : decode cX6_commonDivisor 23 = .ok (.iload_n 3, 1) := by decide +kernel
theorem dX6_commonDivisor_24 : decode cX6_commonDivisor 24 = .ok (.istore_n 2, 1) := by decide +kernel
theorem dX6_commonDivisor_25 : decode cX6_commonDivisor 25 = .ok (.iload 5, 2) := by decide +kernel
theorem dX6_commonDivisor_27 : decode cX6_commonDivisor 27 = .ok (.istore_n 3, 1) := by decide +kernel
theorem dX6_commonDivisor_28 : decode cX6_commonDivisor 28 = .ok (.iinc 4 1, 3) := by decide +kernel
theorem dX6_commonDivisor_31 : decode cX6_commonDivisor 31 = .ok (.goto (-24), 3) := by decide +kernel
theorem dX6_commonDivisor_34 : decode cX6_commonDivisor 34 = .ok (.iload_n 2, 1) := by decide +kernel
theorem dX6_commonDivisor_35 : decode cX6_commonDivisor 35 = .ok (.ireturn, 1) := by decide +kernel
theorem dX6_passYear_0 : decode cX6_passYear 0 = .ok (.iload_n 1, 1) := by decide +kernel
theorem dX6_passYear_1 : decode cX6_passYear 1 = .ok (.bipush 27, 2) := by decide +kernel
theorem dX6_passYear_3 : decode cX6_passYear 3 = .ok (.if_icmp .ge 29, 3) := by decide +kernel
theorem dX6_passYear_6 : decode cX6_passYear 6 = .ok (.aload_n 0, 1) := by decide +kernel
theorem dX6_passYear_7 : decode cX6_passYear 7 = .ok (.getfield 16, 3) := by decide +kernel
theorem dX6_passYear_10 : decode cX6_passYear 10 = .ok (.iconst 1, 1) := by decide +kernel
theorem dX6_passYear_11 : decode cX6_passYear 11 = .ok (.iload_n 1, 1) := by decide +kernel
theorem dX6_passYear_12 : decode cX6_passYear 12 = .ok (.bipush 9, 2) := by decide +kernel
theorem dX6_passYear_14 : decode cX6_passYear 14 = .ok (.idiv, 1) := by decide +kernel
theorem dX6_passYear_15 : decode cX6_passYear 15 = .ok (.iadd, 1) := by decide +kernel
theorem dX6_passYear_16 : decode cX6_passYear 16 = .ok (.iload_n 1, 1) := by decide +kernel
theorem dX6_passYear_17 : decode cX6_passYear 17 = .ok (.bipush 9, 2) := by decide +kernel
theorem dX6_passYear_19 : decode cX6_passYear 19 = .ok (.irem, 1) := by decide +kernel
theorem dX6_passYear_20 : decode cX6_passYear 20 = .ok (.iconst 3, 1) := by decide +kernel
theorem dX6_passYear_21 : decode cX6_passYear 21 = .ok (.idiv, 1) := by decide +kernel
theorem dX6_passYear_22 : decode cX6_passYear 22 = .ok (.iload_n 1, 1) := by decide +kernel
theorem dX6_passYear_23 : decode cX6_passYear 23 = .ok (.iconst 3, 1) := by decide +kernel
theorem dX6_passYear_24 : decode cX6_passYear 24 = .ok (.irem, 1) := by decide +kernel
theorem dX6_passYear_25 : decode cX6_passYear 25 = .ok (.invokevirtual 186, 3) := by decide +kernel
theorem dX6_passYear_28 : decode cX6_passYear 28 = .ok (.pop, 1) := by decide +kernel
theorem dX6_passYear_29 : decode cX6_passYear 29 = .ok (.goto 65, 3) := by decide +kernel
theorem dX6_passYear_32 : decode cX6_passYear 32 = .ok (.iload_n 1, 1) := by decide +kernel
theorem dX6_passYear_33 : decode cX6_passYear 33 = .ok (.bipush 30, 2) := by decide +kernel
theorem dX6_passYear_35 : decode cX6_passYear 35 = .ok (.if_icmp .ge 20, 3) := by decide +kernel
theorem dX6_passYear_38 : decode cX6_passYear 38 = .ok (.aload_n 0, 1) := by decide +kernel
theorem dX6_passYear_39 : decode cX6_passYear 39 = .ok (.getfield 16, 3) := by decide +kernel
theorem dX6_passYear_42 : decode cX6_passYear 42 = .ok (.iconst 4, 1) := by decide +kernel
theorem dX6_passYear_43 : decode cX6_passYear 43 = .ok (.iconst 0, 1) := by decide +kernel
theorem dX6_passYear_44 : decode cX6_passYear 44 = .ok (.iload_n 1, 1) := by decide +kernel
theorem dX6_passYear_45 : decode cX6_passYear 45 = .ok (.bipush 27, 2) := by decide +kernel
theorem dX6_passYear_47 : decode cX6_passYear 47 = .ok (.isub, 1) := by decide +kernel
theorem dX6_passYear_48 : decode cX6_passYear 48 = .ok (.invokevirtual 186, 3) := by decide +kernel
theorem dX6_passYear_51 : decode cX6_passYear 51 = .ok (.pop, 1) := by decide +kernel
theorem dX6_passYear_52 : decode cX6_passYear 52 = .ok (.goto 42, 3) := by decide +kernel
theorem dX6_passYear_55 : decode cX6_passYear 55 = .ok (.iload_n 1, 1) := by decide +kernel
theorem dX6_passYear_56 : decode cX6_passYear 56 = .ok (.bipush 33, 2) := by decide +kernel
theorem dX6_passYear_58 : decode cX6_passYear 58 = .ok (.if_icmp .ge 21, 3) := by decide +kernel
theorem dX6_passYear_61 : decode cX6_passYear 61 = .ok (.aload_n 0, 1) := by decide +kernel
theorem dX6_passYear_62 : decode cX6_passYear 62 = .ok (.getfield 16, 3) := by decide +kernel
theorem dX6_passYear_65 : decode cX6_passYear 65 = .ok (.bipush 6, 2) := by decide +kernel
theorem dX6_passYear_67 : decode cX6_passYear 67 = .ok (.iload_n 1, 1) := by decide +kernel
theorem dX6_passYear_68 : decode cX6_passYear 68 = .ok (.bipush 30, 2) := by decide +kernel
theorem dX6_passYear_70 : decode cX6_passYear 70 = .ok (.isub, 1) := by decide +kernel
theorem dX6_passYear_71 : decode cX6_passYear 71 = .ok (.iconst 0, 1) := by decide +kernel
theorem dX6_passYear_72 : decode cX6_passYear 72 = .ok (.invokevirtual 186, 3) := by decide +kernel
theorem dX6_passYear_75 : decode cX6_passYear 75 = .ok (.pop, 1) := by decide +kernel
theorem dX6_passYear_76 : decode cX6_passYear 76 = .ok (.goto 18, 3) := by decide +kernel
theorem dX6_passYear_79 : decode cX6_passYear 79 = .ok (.aload_n 0, 1) := by decide +kernel
theorem dX6_passYear_80 : decode cX6_passYear 80 = .ok (.getfield 16, 3) := by decide +kernel
theorem dX6_passYear_83 : decode cX6_passYear 83 = .ok (.bipush 7, 2) := by decide +kernel
theorem dX6_passYear_85 : decode cX6_passYear 85 = .ok (.iload_n 1, 1) := by decide +kernel
theorem dX6_passYear_86 : decode cX6_passYear 86 = .ok (.bipush 33, 2) := by decide +kernel
theorem dX6_passYear_88 : decode cX6_passYear 88 = .ok (.isub, 1) := by decide +kernel
theorem dX6_passYear_89 : decode cX6_passYear 89 = .ok (.iconst 0, 1) := by decide +kernel
theorem dX6_passYear_90 : decode cX6_passYear 90 = .ok (.invokevirtual 186, 3) := by decide +kernel
theorem dX6_passYear_93 : decode cX6_passYear 93 = .ok (.pop, 1) := by decide +kernel
theorem dX6_passYear_94 : decode cX6_passYear 94 = .ok (.return_, 1) := by decide +kernel
